/-! the model's orders, and the class's: what becomes of a garden: end (0 fine, 1 no place, 2 bad argument, 3 refused), reason, detail, garden -/
abbrev gO : Type := Int × Int × Int × eGd
def oPit (G : eGd) (n : Int) : gO := if 1 ≤ n ∧ n ≤ 30 then (if 40 < gSum G.1 G.2.2.2.1.toNat + n then (3, 1, gSum G.1 G.2.2.2.1.toNat + n, G) else (0, 0, 0, gPit G n)) else (2, 0, 0, G)
def oDig (G : eGd) (t x : Int) : gO := if (1 ≤ t ∧ t ≤ 6) ∧ 0 ≤ x ∧ x ≤ 7 then (if gDig G t = x then (3, 4, x, G) else (0, 0, 0, gSetD G t x)) else (2, 0, 0, G)
def oScp (G : eGd) (p t l : Int) : gO := if 0 ≤ p ∧ p < G.2.2.2.1 then (if (1 ≤ t ∧ t ≤ 6) ∧ 0 ≤ l ∧ (l = 0 → G.1 p.toNat ≤ t) then (if G.1 p.toNat - t < l then (3, 2, G.1 p.toNat, G) else if gLets (gDig G) (G.1 p.toNat) t l = true then (0, 0, 0, gMake G (p, t, l)) else (3, 3, gDig G t, G)) else (2, 0, 0, G)) else (1, 0, 0, G)
def oNxt (G : eGd) : gO := if 0 < gSum (fun j => gWays (gDig G) (G.1 j)) G.2.2.2.1.toNat then (3, 5, gSum (fun j => gWays (gDig G) (G.1 j)) G.2.2.2.1.toNat, G) else (0, 0, 0, gNext G)
def oPly (G : eGd) : gO := match gTd G with | none => (1, 0, 0, G) | some S => (0, 0, 0, gMake G S)
/-- the codes of an order's exceptions -/
def cPD (e : Int) : Int := if e = 2 then 1 else if e = 3 then 2 else 0
def cSc (e : Int) : Int := e
def cNx (e : Int) : Int := if e = 3 then 1 else 0
def mOp (r : gO) (f : Int → Int) (v : Int) (s : Nat → Int) (A : Nat → Nat → Int) (s' : Nat → Int) (A' : Nat → Nat → Int) (x : Int) : Prop :=
  s' 7 = f r.1 ∧ rR r.2.2.2 (A' 0) ∧ (r.1 = 3 → s' 8 = r.2.1 ∧ s' 9 = r.2.2.1) ∧ (r.1 ≠ 3 → s' 8 = s 8 ∧ s' 9 = s 9) ∧ (r.1 = 0 → kP (s 6) (s 5) (A 1) (A 0) (s' 5) (A' 1) ∧ x = v) ∧ (r.1 ≠ 0 → s' 5 = s 5 ∧ A' 1 = A 1 ∧ x = 0) ∧
  A' 2 = A 2 ∧ A' 3 = A 3 ∧ A' 4 = A 4 ∧ A' 5 = A 5 ∧ A' 8 = A 8 ∧ s' 4 = s 4 ∧ s' 6 = s 6 ∧ s' 11 = s 11 ∧ s' 12 = s 12 ∧ s' 14 = s 14 ∧ s' 22 = s 22
def mOpQ (r : gO) (f : Int → Int) (v : Int) (s : Nat → Int) (A : Nat → Nat → Int) (h : eHp) (N : Nat) : eR → Prop := fun q => ∃ h' s' A' x, q = (.inl (some (vI x)), N, h', 0, 0) ∧ mM h' s' A' ∧ mFr h h' ∧ mOp r f v s A s' A' x
theorem oPit_b {G : eGd} {n : Int} (h : ¬ (1 ≤ n ∧ n ≤ 30)) : oPit G n = (2, 0, 0, G) := if_neg h
theorem oPit_r {G : eGd} {n : Int} (h : 1 ≤ n ∧ n ≤ 30) (h2 : 40 < gSum G.1 G.2.2.2.1.toNat + n) : oPit G n = (3, 1, gSum G.1 G.2.2.2.1.toNat + n, G) := by unfold oPit; rw [if_pos h, if_pos h2]
theorem oPit_f {G : eGd} {n : Int} (h : 1 ≤ n ∧ n ≤ 30) (h2 : ¬ 40 < gSum G.1 G.2.2.2.1.toNat + n) : oPit G n = (0, 0, 0, gPit G n) := by unfold oPit; rw [if_pos h, if_neg h2]
theorem oDig_b {G : eGd} {t x : Int} (h : ¬ ((1 ≤ t ∧ t ≤ 6) ∧ 0 ≤ x ∧ x ≤ 7)) : oDig G t x = (2, 0, 0, G) := if_neg h
theorem oDig_r {G : eGd} {t x : Int} (h : (1 ≤ t ∧ t ≤ 6) ∧ 0 ≤ x ∧ x ≤ 7) (h2 : gDig G t = x) : oDig G t x = (3, 4, x, G) := by unfold oDig; rw [if_pos h, if_pos h2]
theorem oDig_f {G : eGd} {t x : Int} (h : (1 ≤ t ∧ t ≤ 6) ∧ 0 ≤ x ∧ x ≤ 7) (h2 : ¬ gDig G t = x) : oDig G t x = (0, 0, 0, gSetD G t x) := by unfold oDig; rw [if_pos h, if_neg h2]
theorem oScp_p {G : eGd} {p t l : Int} (h : ¬ (0 ≤ p ∧ p < G.2.2.2.1)) : oScp G p t l = (1, 0, 0, G) := if_neg h
theorem oScp_b {G : eGd} {p t l : Int} (h : 0 ≤ p ∧ p < G.2.2.2.1) (h1 : ¬ ((1 ≤ t ∧ t ≤ 6) ∧ 0 ≤ l ∧ (l = 0 → G.1 p.toNat ≤ t))) : oScp G p t l = (2, 0, 0, G) := by unfold oScp; rw [if_pos h, if_neg h1]
theorem oScp_2 {G : eGd} {p t l : Int} (h : 0 ≤ p ∧ p < G.2.2.2.1) (h1 : (1 ≤ t ∧ t ≤ 6) ∧ 0 ≤ l ∧ (l = 0 → G.1 p.toNat ≤ t)) (h2 : G.1 p.toNat - t < l) : oScp G p t l = (3, 2, G.1 p.toNat, G) := by unfold oScp; rw [if_pos h, if_pos h1, if_pos h2]
theorem oScp_3 {G : eGd} {p t l : Int} (h : 0 ≤ p ∧ p < G.2.2.2.1) (h1 : (1 ≤ t ∧ t ≤ 6) ∧ 0 ≤ l ∧ (l = 0 → G.1 p.toNat ≤ t)) (h2 : ¬ G.1 p.toNat - t < l) (h3 : gLets (gDig G) (G.1 p.toNat) t l = false) : oScp G p t l = (3, 3, gDig G t, G) := by unfold oScp; rw [if_pos h, if_pos h1, if_neg h2, h3, if_neg (by decide)]
theorem oScp_f {G : eGd} {p t l : Int} (h : 0 ≤ p ∧ p < G.2.2.2.1) (h1 : (1 ≤ t ∧ t ≤ 6) ∧ 0 ≤ l ∧ (l = 0 → G.1 p.toNat ≤ t)) (h2 : ¬ G.1 p.toNat - t < l) (h3 : gLets (gDig G) (G.1 p.toNat) t l = true) : oScp G p t l = (0, 0, 0, gMake G (p, t, l)) := by unfold oScp; rw [if_pos h, if_pos h1, if_neg h2, if_pos h3]
theorem oNxt_r {G : eGd} (h : 0 < gSum (fun j => gWays (gDig G) (G.1 j)) G.2.2.2.1.toNat) : oNxt G = (3, 5, gSum (fun j => gWays (gDig G) (G.1 j)) G.2.2.2.1.toNat, G) := if_pos h
theorem oNxt_f {G : eGd} (h : ¬ 0 < gSum (fun j => gWays (gDig G) (G.1 j)) G.2.2.2.1.toNat) : oNxt G = (0, 0, 0, gNext G) := if_neg h
theorem rR_dig {G : eGd} {g : Nat → Int} {t x : Int} (hr : rR G g) (ht : 1 ≤ t ∧ t ≤ 6) : rR (gSetD G t x) (eUp g (7 + t).toNat x) := by
  obtain ⟨r0, r1, r2, r3, r4, r5, r6, r7, r8, r9, r10⟩ := hr
  refine ⟨(eUp_ne (by omega)).trans r0, (eUp_ne (by omega)).trans r1, (eUp_ne (by omega)).trans r2, (eUp_ne (by omega)).trans r3, (eUp_ne (by omega)).trans r4, (eUp_ne (by omega)).trans r5, (eUp_ne (by omega)).trans r6, (eUp_ne (by omega)).trans r7, fun i hi => ?_, fun i hi => (eUp_ne (by omega)).trans (r9 i hi), fun i hi => (eUp_ne (by omega)).trans (r10 i hi)⟩
  show eUp g (7 + t).toNat x (8 + i) = eUp G.2.1 (t - 1).toNat x i
  by_cases h : i = (t - 1).toNat
  · rw [eUp_eq (by omega), eUp_eq h]
  · rw [eUp_ne (by omega), eUp_ne h]; exact r8 i hi
theorem rR_pit {G : eGd} {g : Nat → Int} {n : Int} (h0 : 0 ≤ G.2.2.2.1) (hr : rR G g) : rR (gPit G n) (eUp (eUp (eUp g 2 (G.2.2.2.2.2.1 + n)) (22 + G.2.2.2.1).toNat n) 0 (G.2.2.2.1 + 1)) := by
  obtain ⟨r0, r1, r2, r3, r4, r5, r6, r7, r8, r9, r10⟩ := hr
  have e : ∀ k, k ≠ 0 → k < 22 → k ≠ 2 → eUp (eUp (eUp g 2 (G.2.2.2.2.2.1 + n)) (22 + G.2.2.2.1).toNat n) 0 (G.2.2.2.1 + 1) k = g k := fun k h1 h2 h3 => by rw [eUp_ne h1, eUp_ne (by omega), eUp_ne h3]
  refine ⟨eUp_eq rfl, (e 1 (by decide) (by decide) (by decide)).trans r1, by rw [eUp_ne (by decide), eUp_ne (by omega), eUp_eq rfl]; rfl, (e 3 (by decide) (by decide) (by decide)).trans r3, (e 4 (by decide) (by decide) (by decide)).trans r4, (e 5 (by decide) (by decide) (by decide)).trans r5, (e 6 (by decide) (by decide) (by decide)).trans r6, (e 7 (by decide) (by decide) (by decide)).trans r7, fun i hi => (e _ (by omega) (by omega) (by omega)).trans (r8 i hi), fun i hi => (e _ (by omega) (by omega) (by omega)).trans (r9 i hi), fun i hi => ?_⟩
  have hi : (i : Int) < G.2.2.2.1 + 1 := hi
  show _ = eUp G.1 G.2.2.2.1.toNat n i
  rw [eUp_ne (by omega)]
  by_cases h : i = G.2.2.2.1.toNat
  · rw [eUp_eq (by omega), eUp_eq h]
  · rw [eUp_ne (by omega), eUp_ne (by omega), eUp_ne h]; exact r10 i (by omega)
theorem m_pit {d N : Nat} {h : eHp} {s : Nat → Int} {A : Nat → Nat → Int} (hm : mM h s A) (hN : 75 ≤ N) {c : Int} {G : eGd} (hr : rR G (A 0)) (hI : gI c G) (hw6 : s 6 = 0 ∨ s 6 = 1) (hw5 : 0 ≤ s 5 ∧ s 5 ≤ 8) {n : Int} (hn : i32 n) : eSp (d + 4) eM_X7_pit [.ref 63, vI n] N h (mOpQ (oPit G n) cPD (G.2.2.2.1 + 1 - 1) s A h N) := by
  refine eSp_of [(0, .ref 63), (1, vI n)] rfl rfl ?_
  have hG := hI.1
  have hG9 := hG
  obtain ⟨g1, g2, g3, g4⟩ := hG9
  unfold i32 at hn
  have hgp := gI_pits hI
  have hs40 := hI.2.2.2.1
  refine eW_aload_n 1 rfl rfl rfl ?_
  refine eW_iload_n 2 rfl rfl rfl ?_
  refine eW_iconst 3 rfl rfl ?_
  refine eW_bipush 5 rfl rfl 30 rfl ?_
  have hinq1 := eD_c ((1 : Int) ≤ n ∧ n ≤ 30)
  refine eW_callS 8 [vI n, vI 1, vI 30] [.ref 63] [vI (eB01 (decide ((1 : Int) ≤ n ∧ n ≤ 30))), .ref 63] rfl rfl rfl (Or.inl rfl) rfl rfl rfl (m_in (d := d + 2) (by unfold i32; omega) (by unfold i32; omega) (by unfold i32; omega)) rfl rfl ?_
  refine eW_if_eq 11 rfl rfl (by unfold i32; omega) (fun c2 => ?_) (fun c2 => ?_)
  · refine eW_iconst 16 rfl rfl ?_
    have hflq3 := eD_c ((0 : Int) < 1)
    refine eW_callVH 19 [.ref 63, vI 1] [] [vI (eB01 (decide ((0 : Int) < 1)))] rfl rfl rfl rfl (Nat.ble_eq_true_of_le (by omega)) hm.1 rfl rfl rfl (m_fails (d := d + 2) hm hN (by unfold i32; omega)) rfl rfl ?_
    intro h4 fh4
    have hmh4 : mM h4 (sUp s 7 1) A := fh4.1
    have frh4 : mFr h h4 := mFr_t (fun _ _ => rfl) fh4.2
    refine eW_if_eq 22 rfl rfl (by unfold i32; omega) (fun c5 => ?_) (fun c5 => ?_)
    · refine eW_aload_n 25 rfl rfl rfl ?_
      refine eW_callV 28 [.ref 63] [] [vI (gSum G.1 G.2.2.2.1.toNat)] rfl rfl rfl rfl (Nat.ble_eq_true_of_le (by omega)) (show h4 63 = .inr (11, [.ref 64, .ref 65, .ref 66, .ref 67, vI (s 4), vI (s 5), vI (s 6), vI 1, vI (s 8), vI (s 9), .ref 68, vI (s 11), vI (s 12), .ref 69, vI (s 14), .ref 70, .ref 71, vI (s 17), vI (s 18), vI (s 19), vI (s 20), .ref 72, vI (s 22)]) from hmh4.1) rfl rfl rfl (m_all (d := d + 1) hmh4 hN hr hG) rfl rfl ?_
      refine eW_iload_n 29 rfl rfl rfl ?_
      refine eW_iadd 30 rfl rfl ?_
      refine eW_bipush 32 rfl rfl 40 rfl ?_
      refine eW_icmp_le 35 rfl rfl (by unfold i32; omega) (by unfold i32; omega) (fun c6 => ?_) (fun c6 => ?_)
      · refine eW_aload_n 49 rfl rfl rfl ?_
        refine eW_aload_n 50 rfl rfl rfl ?_
        refine eW_getfield 53 rfl rfl (Nat.ble_eq_true_of_le (by omega)) rfl (show h4 63 = .inr (11, [.ref 64, .ref 65, .ref 66, .ref 67, vI (s 4), vI (s 5), vI (s 6), vI 1, vI (s 8), vI (s 9), .ref 68, vI (s 11), vI (s 12), .ref 69, vI (s 14), .ref 70, .ref 71, vI (s 17), vI (s 18), vI (s 19), vI (s 20), .ref 72, vI (s 22)]) from hmh4.1) rfl ⟨rfl, fun _ h9 => nomatch h9⟩ ?_
        refine eW_callVH 56 [.ref 63, .ref 64] [] [] rfl rfl rfl rfl (Nat.ble_eq_true_of_le (by omega)) (show h4 63 = .inr (11, [.ref 64, .ref 65, .ref 66, .ref 67, vI (s 4), vI (s 5), vI (s 6), vI 1, vI (s 8), vI (s 9), .ref 68, vI (s 11), vI (s 12), .ref 69, vI (s 14), .ref 70, .ref 71, vI (s 17), vI (s 18), vI (s 19), vI (s 20), .ref 72, vI (s 22)]) from hmh4.1) rfl rfl rfl (m_keeps (d := d + 1) hmh4 hN hw6 hw5) rfl rfl ?_
        intro h7 fh7
        obtain ⟨s5, K5, f9h7⟩ := fh7
        obtain ⟨f8h7, hk⟩ := f9h7
        have hmh7 : mM h7 (sUp (sUp s 5 s5) 7 0) (mUp A 1 K5) := f8h7.1
        have frh7 : mFr h h7 := mFr_t frh4 f8h7.2
        refine eW_aload_n 57 rfl rfl rfl ?_
        refine eW_getfield 60 rfl rfl (Nat.ble_eq_true_of_le (by omega)) rfl (show h7 63 = .inr (11, [.ref 64, .ref 65, .ref 66, .ref 67, vI (s 4), vI s5, vI (s 6), vI 0, vI (s 8), vI (s 9), .ref 68, vI (s 11), vI (s 12), .ref 69, vI (s 14), .ref 70, .ref 71, vI (s 17), vI (s 18), vI (s 19), vI (s 20), .ref 72, vI (s 22)]) from hmh7.1) rfl ⟨rfl, fun _ h9 => nomatch h9⟩ ?_
        refine eW_iconst 61 rfl rfl ?_
        refine eW_dup2 62 rfl rfl rfl ?_
        refine eW_iaload 63 rfl rfl G.2.2.2.2.2.1 (Nat.ble_eq_true_of_le (by omega)) (show h7 64 = .inl (0, 62, .inl (eIA (A 0))) from hmh7.2.1) (by omega) (by omega) (by unfold i32; omega) (congrArg Int32.ofInt hr.2.2.1) ?_
        refine eW_iload_n 64 rfl rfl rfl ?_
        refine eW_iadd 65 rfl rfl ?_
        refine eW_iastore 66 rfl rfl (Nat.ble_eq_true_of_le (by omega)) (show h7 64 = .inl (0, 62, .inl (eIA (A 0))) from hmh7.2.1) (by omega) (by omega) (by unfold i32; omega) rfl ?_
        intro h8 eh8 oh8
        have hmh8 : mM h8 (sUp (sUp s 5 s5) 7 0) (mUp (mUp A 0 (eUp (A 0) 2 (G.2.2.2.2.2.1 + n))) 1 K5) := mM_0 hmh7 eh8 oh8 ⟨rfl, rfl, rfl, rfl, rfl, rfl, rfl, rfl⟩
        have frh8 : mFr h h8 := mFr_a frh7 (by decide) oh8
        refine eW_aload_n 67 rfl rfl rfl ?_
        refine eW_iload_n 68 rfl rfl rfl ?_
        refine eW_callVH 71 [.ref 63, vI n] [] [vI (G.2.2.2.1 + 1 - 1)] rfl rfl rfl rfl (Nat.ble_eq_true_of_le (by omega)) (show h8 63 = .inr (11, [.ref 64, .ref 65, .ref 66, .ref 67, vI (s 4), vI s5, vI (s 6), vI 0, vI (s 8), vI (s 9), .ref 68, vI (s 11), vI (s 12), .ref 69, vI (s 14), .ref 70, .ref 71, vI (s 17), vI (s 18), vI (s 19), vI (s 20), .ref 72, vI (s 22)]) from hmh8.1) rfl rfl rfl (m_comes (d := d + 2) hmh8 hN (n := G.2.2.2.1) (show (eUp (A 0) 2 (G.2.2.2.2.2.1 + n)) 0 = G.2.2.2.1 from (Eq.trans (eUp_ne (by decide)) hr.1)) ⟨g1, by omega⟩) rfl rfl ?_
        intro h9 fh9
        have hmh9 : mM h9 (sUp (sUp s 5 s5) 7 0) (mUp (mUp A 0 (eUp (eUp (eUp (A 0) 2 (G.2.2.2.2.2.1 + n)) (22 + G.2.2.2.1).toNat n) 0 (G.2.2.2.1 + 1))) 1 K5) := fh9.1
        have frh9 : mFr h h9 := mFr_t frh8 fh9.2
        refine eW_ret_i rfl rfl (Or.inl rfl) ?_
        have ho : oPit G n = (0, 0, 0, gPit G n) := by
          exact oPit_f (by omega) (by omega)
        refine ⟨_, _, _, _, rfl, hmh9, frh9, ?_⟩
        unfold mOp
        rw [ho]
        refine ⟨rfl, ?_, (fun e => absurd (show (0 : Int) = 3 from e) (by decide)), (fun _ => ⟨rfl, rfl⟩), (fun _ => ⟨hk, rfl⟩), (fun e => absurd rfl e), rfl, rfl, rfl, rfl, rfl, rfl, rfl, rfl, rfl, rfl, rfl⟩
        exact rR_pit g1 hr
      · refine eW_aload_n 36 rfl rfl rfl ?_
        refine eW_iconst 37 rfl rfl ?_
        refine eW_iconst 38 rfl rfl ?_
        refine eW_aload_n 39 rfl rfl rfl ?_
        refine eW_callV 42 [.ref 63] [vI 1, vI 2, .ref 63] [vI (gSum G.1 G.2.2.2.1.toNat), vI 1, vI 2, .ref 63] rfl rfl rfl rfl (Nat.ble_eq_true_of_le (by omega)) (show h4 63 = .inr (11, [.ref 64, .ref 65, .ref 66, .ref 67, vI (s 4), vI (s 5), vI (s 6), vI 1, vI (s 8), vI (s 9), .ref 68, vI (s 11), vI (s 12), .ref 69, vI (s 14), .ref 70, .ref 71, vI (s 17), vI (s 18), vI (s 19), vI (s 20), .ref 72, vI (s 22)]) from hmh4.1) rfl rfl rfl (m_all (d := d + 1) hmh4 hN hr hG) rfl rfl ?_
        refine eW_iload_n 43 rfl rfl rfl ?_
        refine eW_iadd 44 rfl rfl ?_
        refine eW_callVH 47 [.ref 63, vI 2, vI 1, vI ((gSum G.1 G.2.2.2.1.toNat) + n)] [] [vI 0] rfl rfl rfl rfl (Nat.ble_eq_true_of_le (by omega)) (show h4 63 = .inr (11, [.ref 64, .ref 65, .ref 66, .ref 67, vI (s 4), vI (s 5), vI (s 6), vI 1, vI (s 8), vI (s 9), .ref 68, vI (s 11), vI (s 12), .ref 69, vI (s 14), .ref 70, .ref 71, vI (s 17), vI (s 18), vI (s 19), vI (s 20), .ref 72, vI (s 22)]) from hmh4.1) rfl rfl rfl (m_refuses (d := d + 2) hmh4 hN ) rfl rfl ?_
        intro h10 fh10
        have hmh10 : mM h10 (sUp (sUp (sUp s 7 2) 8 1) 9 ((gSum G.1 G.2.2.2.1.toNat) + n)) A := fh10.1
        have frh10 : mFr h h10 := mFr_t frh4 fh10.2
        refine eW_ret_i rfl rfl (Or.inl rfl) ?_
        have ho : oPit G n = (3, 1, gSum G.1 G.2.2.2.1.toNat + n, G) := by
          exact oPit_r (by omega) (by omega)
        refine ⟨_, _, _, _, rfl, hmh10, frh10, ?_⟩
        unfold mOp
        rw [ho]
        refine ⟨rfl, ?_, (fun _ => ⟨rfl, rfl⟩), (fun e => absurd rfl e), (fun e => absurd (show (3 : Int) = 0 from e) (by decide)), (fun _ => ⟨rfl, rfl, rfl⟩), rfl, rfl, rfl, rfl, rfl, rfl, rfl, rfl, rfl, rfl, rfl⟩
        exact hr
    · refine eW_iconst 23 rfl rfl ?_
      refine eW_ret_i rfl rfl (Or.inl rfl) ?_
      have ho : oPit G n = (2, 0, 0, G) := by
        exact oPit_b (by omega)
      refine ⟨_, _, _, _, rfl, hmh4, frh4, ?_⟩
      unfold mOp
      rw [ho]
      refine ⟨rfl, ?_, (fun e => absurd (show (2 : Int) = 3 from e) (by decide)), (fun _ => ⟨rfl, rfl⟩), (fun e => absurd (show (2 : Int) = 0 from e) (by decide)), (fun _ => ⟨rfl, rfl, rfl⟩), rfl, rfl, rfl, rfl, rfl, rfl, rfl, rfl, rfl, rfl, rfl⟩
      exact hr
  · refine eW_iconst 12 rfl rfl ?_
    refine eW_goto rfl ?_
    have hflq11 := eD_c ((0 : Int) < 0)
    refine eW_callVH 19 [.ref 63, vI 0] [] [vI (eB01 (decide ((0 : Int) < 0)))] rfl rfl rfl rfl (Nat.ble_eq_true_of_le (by omega)) hm.1 rfl rfl rfl (m_fails (d := d + 2) hm hN (by unfold i32; omega)) rfl rfl ?_
    intro h12 fh12
    have hmh12 : mM h12 (sUp s 7 0) A := fh12.1
    have frh12 : mFr h h12 := mFr_t (fun _ _ => rfl) fh12.2
    refine eW_if_eq 22 rfl rfl (by unfold i32; omega) (fun c13 => ?_) (fun c13 => ?_)
    · refine eW_aload_n 25 rfl rfl rfl ?_
      refine eW_callV 28 [.ref 63] [] [vI (gSum G.1 G.2.2.2.1.toNat)] rfl rfl rfl rfl (Nat.ble_eq_true_of_le (by omega)) (show h12 63 = .inr (11, [.ref 64, .ref 65, .ref 66, .ref 67, vI (s 4), vI (s 5), vI (s 6), vI 0, vI (s 8), vI (s 9), .ref 68, vI (s 11), vI (s 12), .ref 69, vI (s 14), .ref 70, .ref 71, vI (s 17), vI (s 18), vI (s 19), vI (s 20), .ref 72, vI (s 22)]) from hmh12.1) rfl rfl rfl (m_all (d := d + 1) hmh12 hN hr hG) rfl rfl ?_
      refine eW_iload_n 29 rfl rfl rfl ?_
      refine eW_iadd 30 rfl rfl ?_
      refine eW_bipush 32 rfl rfl 40 rfl ?_
      refine eW_icmp_le 35 rfl rfl (by unfold i32; omega) (by unfold i32; omega) (fun c14 => ?_) (fun c14 => ?_)
      · refine eW_aload_n 49 rfl rfl rfl ?_
        refine eW_aload_n 50 rfl rfl rfl ?_
        refine eW_getfield 53 rfl rfl (Nat.ble_eq_true_of_le (by omega)) rfl (show h12 63 = .inr (11, [.ref 64, .ref 65, .ref 66, .ref 67, vI (s 4), vI (s 5), vI (s 6), vI 0, vI (s 8), vI (s 9), .ref 68, vI (s 11), vI (s 12), .ref 69, vI (s 14), .ref 70, .ref 71, vI (s 17), vI (s 18), vI (s 19), vI (s 20), .ref 72, vI (s 22)]) from hmh12.1) rfl ⟨rfl, fun _ h9 => nomatch h9⟩ ?_
        refine eW_callVH 56 [.ref 63, .ref 64] [] [] rfl rfl rfl rfl (Nat.ble_eq_true_of_le (by omega)) (show h12 63 = .inr (11, [.ref 64, .ref 65, .ref 66, .ref 67, vI (s 4), vI (s 5), vI (s 6), vI 0, vI (s 8), vI (s 9), .ref 68, vI (s 11), vI (s 12), .ref 69, vI (s 14), .ref 70, .ref 71, vI (s 17), vI (s 18), vI (s 19), vI (s 20), .ref 72, vI (s 22)]) from hmh12.1) rfl rfl rfl (m_keeps (d := d + 1) hmh12 hN hw6 hw5) rfl rfl ?_
        intro h15 fh15
        obtain ⟨s5, K5, f9h15⟩ := fh15
        obtain ⟨f8h15, hk⟩ := f9h15
        have hmh15 : mM h15 (sUp (sUp s 5 s5) 7 0) (mUp A 1 K5) := f8h15.1
        have frh15 : mFr h h15 := mFr_t frh12 f8h15.2
        refine eW_aload_n 57 rfl rfl rfl ?_
        refine eW_getfield 60 rfl rfl (Nat.ble_eq_true_of_le (by omega)) rfl (show h15 63 = .inr (11, [.ref 64, .ref 65, .ref 66, .ref 67, vI (s 4), vI s5, vI (s 6), vI 0, vI (s 8), vI (s 9), .ref 68, vI (s 11), vI (s 12), .ref 69, vI (s 14), .ref 70, .ref 71, vI (s 17), vI (s 18), vI (s 19), vI (s 20), .ref 72, vI (s 22)]) from hmh15.1) rfl ⟨rfl, fun _ h9 => nomatch h9⟩ ?_
        refine eW_iconst 61 rfl rfl ?_
        refine eW_dup2 62 rfl rfl rfl ?_
        refine eW_iaload 63 rfl rfl G.2.2.2.2.2.1 (Nat.ble_eq_true_of_le (by omega)) (show h15 64 = .inl (0, 62, .inl (eIA (A 0))) from hmh15.2.1) (by omega) (by omega) (by unfold i32; omega) (congrArg Int32.ofInt hr.2.2.1) ?_
        refine eW_iload_n 64 rfl rfl rfl ?_
        refine eW_iadd 65 rfl rfl ?_
        refine eW_iastore 66 rfl rfl (Nat.ble_eq_true_of_le (by omega)) (show h15 64 = .inl (0, 62, .inl (eIA (A 0))) from hmh15.2.1) (by omega) (by omega) (by unfold i32; omega) rfl ?_
        intro h16 eh16 oh16
        have hmh16 : mM h16 (sUp (sUp s 5 s5) 7 0) (mUp (mUp A 0 (eUp (A 0) 2 (G.2.2.2.2.2.1 + n))) 1 K5) := mM_0 hmh15 eh16 oh16 ⟨rfl, rfl, rfl, rfl, rfl, rfl, rfl, rfl⟩
        have frh16 : mFr h h16 := mFr_a frh15 (by decide) oh16
        refine eW_aload_n 67 rfl rfl rfl ?_
        refine eW_iload_n 68 rfl rfl rfl ?_
        refine eW_callVH 71 [.ref 63, vI n] [] [vI (G.2.2.2.1 + 1 - 1)] rfl rfl rfl rfl (Nat.ble_eq_true_of_le (by omega)) (show h16 63 = .inr (11, [.ref 64, .ref 65, .ref 66, .ref 67, vI (s 4), vI s5, vI (s 6), vI 0, vI (s 8), vI (s 9), .ref 68, vI (s 11), vI (s 12), .ref 69, vI (s 14), .ref 70, .ref 71, vI (s 17), vI (s 18), vI (s 19), vI (s 20), .ref 72, vI (s 22)]) from hmh16.1) rfl rfl rfl (m_comes (d := d + 2) hmh16 hN (n := G.2.2.2.1) (show (eUp (A 0) 2 (G.2.2.2.2.2.1 + n)) 0 = G.2.2.2.1 from (Eq.trans (eUp_ne (by decide)) hr.1)) ⟨g1, by omega⟩) rfl rfl ?_
        intro h17 fh17
        have hmh17 : mM h17 (sUp (sUp s 5 s5) 7 0) (mUp (mUp A 0 (eUp (eUp (eUp (A 0) 2 (G.2.2.2.2.2.1 + n)) (22 + G.2.2.2.1).toNat n) 0 (G.2.2.2.1 + 1))) 1 K5) := fh17.1
        have frh17 : mFr h h17 := mFr_t frh16 fh17.2
        refine eW_ret_i rfl rfl (Or.inl rfl) ?_
        have ho : oPit G n = (0, 0, 0, gPit G n) := by
          exact oPit_f (by omega) (by omega)
        refine ⟨_, _, _, _, rfl, hmh17, frh17, ?_⟩
        unfold mOp
        rw [ho]
        refine ⟨rfl, ?_, (fun e => absurd (show (0 : Int) = 3 from e) (by decide)), (fun _ => ⟨rfl, rfl⟩), (fun _ => ⟨hk, rfl⟩), (fun e => absurd rfl e), rfl, rfl, rfl, rfl, rfl, rfl, rfl, rfl, rfl, rfl, rfl⟩
        exact rR_pit g1 hr
      · refine eW_aload_n 36 rfl rfl rfl ?_
        refine eW_iconst 37 rfl rfl ?_
        refine eW_iconst 38 rfl rfl ?_
        refine eW_aload_n 39 rfl rfl rfl ?_
        refine eW_callV 42 [.ref 63] [vI 1, vI 2, .ref 63] [vI (gSum G.1 G.2.2.2.1.toNat), vI 1, vI 2, .ref 63] rfl rfl rfl rfl (Nat.ble_eq_true_of_le (by omega)) (show h12 63 = .inr (11, [.ref 64, .ref 65, .ref 66, .ref 67, vI (s 4), vI (s 5), vI (s 6), vI 0, vI (s 8), vI (s 9), .ref 68, vI (s 11), vI (s 12), .ref 69, vI (s 14), .ref 70, .ref 71, vI (s 17), vI (s 18), vI (s 19), vI (s 20), .ref 72, vI (s 22)]) from hmh12.1) rfl rfl rfl (m_all (d := d + 1) hmh12 hN hr hG) rfl rfl ?_
        refine eW_iload_n 43 rfl rfl rfl ?_
        refine eW_iadd 44 rfl rfl ?_
        refine eW_callVH 47 [.ref 63, vI 2, vI 1, vI ((gSum G.1 G.2.2.2.1.toNat) + n)] [] [vI 0] rfl rfl rfl rfl (Nat.ble_eq_true_of_le (by omega)) (show h12 63 = .inr (11, [.ref 64, .ref 65, .ref 66, .ref 67, vI (s 4), vI (s 5), vI (s 6), vI 0, vI (s 8), vI (s 9), .ref 68, vI (s 11), vI (s 12), .ref 69, vI (s 14), .ref 70, .ref 71, vI (s 17), vI (s 18), vI (s 19), vI (s 20), .ref 72, vI (s 22)]) from hmh12.1) rfl rfl rfl (m_refuses (d := d + 2) hmh12 hN ) rfl rfl ?_
        intro h18 fh18
        have hmh18 : mM h18 (sUp (sUp (sUp s 7 2) 8 1) 9 ((gSum G.1 G.2.2.2.1.toNat) + n)) A := fh18.1
        have frh18 : mFr h h18 := mFr_t frh12 fh18.2
        refine eW_ret_i rfl rfl (Or.inl rfl) ?_
        have ho : oPit G n = (3, 1, gSum G.1 G.2.2.2.1.toNat + n, G) := by
          exact oPit_r (by omega) (by omega)
        refine ⟨_, _, _, _, rfl, hmh18, frh18, ?_⟩
        unfold mOp
        rw [ho]
        refine ⟨rfl, ?_, (fun _ => ⟨rfl, rfl⟩), (fun e => absurd rfl e), (fun e => absurd (show (3 : Int) = 0 from e) (by decide)), (fun _ => ⟨rfl, rfl, rfl⟩), rfl, rfl, rfl, rfl, rfl, rfl, rfl, rfl, rfl, rfl, rfl⟩
        exact hr
    · refine eW_iconst 23 rfl rfl ?_
      refine eW_ret_i rfl rfl (Or.inl rfl) ?_
      exfalso; omega
theorem m_digit {d N : Nat} {h : eHp} {s : Nat → Int} {A : Nat → Nat → Int} (hm : mM h s A) (hN : 75 ≤ N) {c : Int} {G : eGd} (hr : rR G (A 0)) (hI : gI c G) (hw6 : s 6 = 0 ∨ s 6 = 1) (hw5 : 0 ≤ s 5 ∧ s 5 ≤ 8) {t x : Int} (ht : i32 t) (hx : i32 x) : eSp (d + 3) eM_X7_digit [.ref 63, vI t, vI x] N h (mOpQ (oDig G t x) cPD (gDig G t) s A h N) := by
  refine eSp_of [(0, .ref 63), (1, vI t), (2, vI x)] rfl rfl ?_
  have hG := hI.1
  have hG9 := hG
  obtain ⟨g1, g2, g3, g4⟩ := hG9
  unfold i32 at ht hx
  have hd := gDig_le hG t
  refine eW_aload_n 1 rfl rfl rfl ?_
  refine eW_iload_n 2 rfl rfl rfl ?_
  refine eW_iconst 3 rfl rfl ?_
  refine eW_bipush 5 rfl rfl 6 rfl ?_
  have hinq1 := eD_c ((1 : Int) ≤ t ∧ t ≤ 6)
  refine eW_callS 8 [vI t, vI 1, vI 6] [.ref 63] [vI (eB01 (decide ((1 : Int) ≤ t ∧ t ≤ 6))), .ref 63] rfl rfl rfl (Or.inl rfl) rfl rfl rfl (m_in (d := d + 1) (by unfold i32; omega) (by unfold i32; omega) (by unfold i32; omega)) rfl rfl ?_
  refine eW_if_eq 11 rfl rfl (by unfold i32; omega) (fun c2 => ?_) (fun c2 => ?_)
  · refine eW_iconst 26 rfl rfl ?_
    have hflq3 := eD_c ((0 : Int) < 1)
    refine eW_callVH 29 [.ref 63, vI 1] [] [vI (eB01 (decide ((0 : Int) < 1)))] rfl rfl rfl rfl (Nat.ble_eq_true_of_le (by omega)) hm.1 rfl rfl rfl (m_fails (d := d + 1) hm hN (by unfold i32; omega)) rfl rfl ?_
    intro h4 fh4
    have hmh4 : mM h4 (sUp s 7 1) A := fh4.1
    have frh4 : mFr h h4 := mFr_t (fun _ _ => rfl) fh4.2
    refine eW_if_eq 32 rfl rfl (by unfold i32; omega) (fun c5 => ?_) (fun c5 => ?_)
    · refine eW_aload_n 35 rfl rfl rfl ?_
      refine eW_getfield 38 rfl rfl (Nat.ble_eq_true_of_le (by omega)) rfl (show h4 63 = .inr (11, [.ref 64, .ref 65, .ref 66, .ref 67, vI (s 4), vI (s 5), vI (s 6), vI 1, vI (s 8), vI (s 9), .ref 68, vI (s 11), vI (s 12), .ref 69, vI (s 14), .ref 70, .ref 71, vI (s 17), vI (s 18), vI (s 19), vI (s 20), .ref 72, vI (s 22)]) from hmh4.1) rfl ⟨rfl, fun _ h9 => nomatch h9⟩ ?_
      refine eW_bipush 40 rfl rfl 7 rfl ?_
      refine eW_iload_n 41 rfl rfl rfl ?_
      refine eW_iadd 42 rfl rfl ?_
      refine eW_iaload 43 rfl rfl (gDig G t) (Nat.ble_eq_true_of_le (by omega)) (show h4 64 = .inl (0, 62, .inl (eIA (A 0))) from hmh4.2.1) (by omega) (by omega) (by unfold i32; omega) (rR_d hr (by omega) (by omega)) ?_
      refine eW_iload_n 44 rfl rfl rfl ?_
      refine eW_icmp_ne 47 rfl rfl (by unfold i32; omega) (by unfold i32; omega) (fun c6 => ?_) (fun c6 => ?_)
      · refine eW_aload_n 56 rfl rfl rfl ?_
        refine eW_aload_n 57 rfl rfl rfl ?_
        refine eW_getfield 60 rfl rfl (Nat.ble_eq_true_of_le (by omega)) rfl (show h4 63 = .inr (11, [.ref 64, .ref 65, .ref 66, .ref 67, vI (s 4), vI (s 5), vI (s 6), vI 1, vI (s 8), vI (s 9), .ref 68, vI (s 11), vI (s 12), .ref 69, vI (s 14), .ref 70, .ref 71, vI (s 17), vI (s 18), vI (s 19), vI (s 20), .ref 72, vI (s 22)]) from hmh4.1) rfl ⟨rfl, fun _ h9 => nomatch h9⟩ ?_
        refine eW_callVH 63 [.ref 63, .ref 64] [] [] rfl rfl rfl rfl (Nat.ble_eq_true_of_le (by omega)) (show h4 63 = .inr (11, [.ref 64, .ref 65, .ref 66, .ref 67, vI (s 4), vI (s 5), vI (s 6), vI 1, vI (s 8), vI (s 9), .ref 68, vI (s 11), vI (s 12), .ref 69, vI (s 14), .ref 70, .ref 71, vI (s 17), vI (s 18), vI (s 19), vI (s 20), .ref 72, vI (s 22)]) from hmh4.1) rfl rfl rfl (m_keeps (d := d + 0) hmh4 hN hw6 hw5) rfl rfl ?_
        intro h7 fh7
        obtain ⟨s5, K5, f9h7⟩ := fh7
        obtain ⟨f8h7, hk⟩ := f9h7
        have hmh7 : mM h7 (sUp (sUp s 5 s5) 7 0) (mUp A 1 K5) := f8h7.1
        have frh7 : mFr h h7 := mFr_t frh4 f8h7.2
        refine eW_aload_n 64 rfl rfl rfl ?_
        refine eW_getfield 67 rfl rfl (Nat.ble_eq_true_of_le (by omega)) rfl (show h7 63 = .inr (11, [.ref 64, .ref 65, .ref 66, .ref 67, vI (s 4), vI s5, vI (s 6), vI 0, vI (s 8), vI (s 9), .ref 68, vI (s 11), vI (s 12), .ref 69, vI (s 14), .ref 70, .ref 71, vI (s 17), vI (s 18), vI (s 19), vI (s 20), .ref 72, vI (s 22)]) from hmh7.1) rfl ⟨rfl, fun _ h9 => nomatch h9⟩ ?_
        refine eW_bipush 69 rfl rfl 7 rfl ?_
        refine eW_iload_n 70 rfl rfl rfl ?_
        refine eW_iadd 71 rfl rfl ?_
        refine eW_iaload 72 rfl rfl (gDig G t) (Nat.ble_eq_true_of_le (by omega)) (show h7 64 = .inl (0, 62, .inl (eIA (A 0))) from hmh7.2.1) (by omega) (by omega) (by unfold i32; omega) (rR_d hr (by omega) (by omega)) ?_
        refine eW_istore_n 73 rfl rfl [(3, vI (gDig G t)), (0, .ref 63), (1, vI t), (2, vI x)] rfl rfl ?_
        refine eW_aload_n 74 rfl rfl rfl ?_
        refine eW_getfield 77 rfl rfl (Nat.ble_eq_true_of_le (by omega)) rfl (show h7 63 = .inr (11, [.ref 64, .ref 65, .ref 66, .ref 67, vI (s 4), vI s5, vI (s 6), vI 0, vI (s 8), vI (s 9), .ref 68, vI (s 11), vI (s 12), .ref 69, vI (s 14), .ref 70, .ref 71, vI (s 17), vI (s 18), vI (s 19), vI (s 20), .ref 72, vI (s 22)]) from hmh7.1) rfl ⟨rfl, fun _ h9 => nomatch h9⟩ ?_
        refine eW_bipush 79 rfl rfl 7 rfl ?_
        refine eW_iload_n 80 rfl rfl rfl ?_
        refine eW_iadd 81 rfl rfl ?_
        refine eW_iload_n 82 rfl rfl rfl ?_
        refine eW_iastore 83 rfl rfl (Nat.ble_eq_true_of_le (by omega)) (show h7 64 = .inl (0, 62, .inl (eIA (A 0))) from hmh7.2.1) (by omega) (by omega) (by unfold i32; omega) rfl ?_
        intro h8 eh8 oh8
        have hmh8 : mM h8 (sUp (sUp s 5 s5) 7 0) (mUp (mUp A 0 (eUp (A 0) (7 + t).toNat x)) 1 K5) := mM_0 hmh7 eh8 oh8 ⟨rfl, rfl, rfl, rfl, rfl, rfl, rfl, rfl⟩
        have frh8 : mFr h h8 := mFr_a frh7 (by decide) oh8
        refine eW_iload_n 84 rfl rfl rfl ?_
        refine eW_ret_i rfl rfl (Or.inl rfl) ?_
        have ho : oDig G t x = (0, 0, 0, gSetD G t x) := by
          exact oDig_f (by omega) (by omega)
        refine ⟨_, _, _, _, rfl, hmh8, frh8, ?_⟩
        unfold mOp
        rw [ho]
        refine ⟨rfl, ?_, (fun e => absurd (show (0 : Int) = 3 from e) (by decide)), (fun _ => ⟨rfl, rfl⟩), (fun _ => ⟨hk, rfl⟩), (fun e => absurd rfl e), rfl, rfl, rfl, rfl, rfl, rfl, rfl, rfl, rfl, rfl, rfl⟩
        exact rR_dig hr (by omega)
      · refine eW_aload_n 48 rfl rfl rfl ?_
        refine eW_iconst 49 rfl rfl ?_
        refine eW_iconst 50 rfl rfl ?_
        refine eW_iload_n 51 rfl rfl rfl ?_
        refine eW_callVH 54 [.ref 63, vI 2, vI 4, vI x] [] [vI 0] rfl rfl rfl rfl (Nat.ble_eq_true_of_le (by omega)) (show h4 63 = .inr (11, [.ref 64, .ref 65, .ref 66, .ref 67, vI (s 4), vI (s 5), vI (s 6), vI 1, vI (s 8), vI (s 9), .ref 68, vI (s 11), vI (s 12), .ref 69, vI (s 14), .ref 70, .ref 71, vI (s 17), vI (s 18), vI (s 19), vI (s 20), .ref 72, vI (s 22)]) from hmh4.1) rfl rfl rfl (m_refuses (d := d + 1) hmh4 hN ) rfl rfl ?_
        intro h9 fh9
        have hmh9 : mM h9 (sUp (sUp (sUp s 7 2) 8 4) 9 x) A := fh9.1
        have frh9 : mFr h h9 := mFr_t frh4 fh9.2
        refine eW_ret_i rfl rfl (Or.inl rfl) ?_
        have ho : oDig G t x = (3, 4, x, G) := by
          exact oDig_r (by omega) (by omega)
        refine ⟨_, _, _, _, rfl, hmh9, frh9, ?_⟩
        unfold mOp
        rw [ho]
        refine ⟨rfl, ?_, (fun _ => ⟨rfl, rfl⟩), (fun e => absurd rfl e), (fun e => absurd (show (3 : Int) = 0 from e) (by decide)), (fun _ => ⟨rfl, rfl, rfl⟩), rfl, rfl, rfl, rfl, rfl, rfl, rfl, rfl, rfl, rfl, rfl⟩
        exact hr
    · refine eW_iconst 33 rfl rfl ?_
      refine eW_ret_i rfl rfl (Or.inl rfl) ?_
      have ho : oDig G t x = (2, 0, 0, G) := by
        exact oDig_b (by omega)
      refine ⟨_, _, _, _, rfl, hmh4, frh4, ?_⟩
      unfold mOp
      rw [ho]
      refine ⟨rfl, ?_, (fun e => absurd (show (2 : Int) = 3 from e) (by decide)), (fun _ => ⟨rfl, rfl⟩), (fun e => absurd (show (2 : Int) = 0 from e) (by decide)), (fun _ => ⟨rfl, rfl, rfl⟩), rfl, rfl, rfl, rfl, rfl, rfl, rfl, rfl, rfl, rfl, rfl⟩
      exact hr
  · refine eW_iload_n 12 rfl rfl rfl ?_
    refine eW_iconst 13 rfl rfl ?_
    refine eW_bipush 15 rfl rfl 7 rfl ?_
    have hinq10 := eD_c ((0 : Int) ≤ x ∧ x ≤ 7)
    refine eW_callS 18 [vI x, vI 0, vI 7] [.ref 63] [vI (eB01 (decide ((0 : Int) ≤ x ∧ x ≤ 7))), .ref 63] rfl rfl rfl (Or.inl rfl) rfl rfl rfl (m_in (d := d + 1) (by unfold i32; omega) (by unfold i32; omega) (by unfold i32; omega)) rfl rfl ?_
    refine eW_if_eq 21 rfl rfl (by unfold i32; omega) (fun c11 => ?_) (fun c11 => ?_)
    · refine eW_iconst 26 rfl rfl ?_
      have hflq12 := eD_c ((0 : Int) < 1)
      refine eW_callVH 29 [.ref 63, vI 1] [] [vI (eB01 (decide ((0 : Int) < 1)))] rfl rfl rfl rfl (Nat.ble_eq_true_of_le (by omega)) hm.1 rfl rfl rfl (m_fails (d := d + 1) hm hN (by unfold i32; omega)) rfl rfl ?_
      intro h13 fh13
      have hmh13 : mM h13 (sUp s 7 1) A := fh13.1
      have frh13 : mFr h h13 := mFr_t (fun _ _ => rfl) fh13.2
      refine eW_if_eq 32 rfl rfl (by unfold i32; omega) (fun c14 => ?_) (fun c14 => ?_)
      · refine eW_aload_n 35 rfl rfl rfl ?_
        refine eW_getfield 38 rfl rfl (Nat.ble_eq_true_of_le (by omega)) rfl (show h13 63 = .inr (11, [.ref 64, .ref 65, .ref 66, .ref 67, vI (s 4), vI (s 5), vI (s 6), vI 1, vI (s 8), vI (s 9), .ref 68, vI (s 11), vI (s 12), .ref 69, vI (s 14), .ref 70, .ref 71, vI (s 17), vI (s 18), vI (s 19), vI (s 20), .ref 72, vI (s 22)]) from hmh13.1) rfl ⟨rfl, fun _ h9 => nomatch h9⟩ ?_
        refine eW_bipush 40 rfl rfl 7 rfl ?_
        refine eW_iload_n 41 rfl rfl rfl ?_
        refine eW_iadd 42 rfl rfl ?_
        refine eW_iaload 43 rfl rfl (gDig G t) (Nat.ble_eq_true_of_le (by omega)) (show h13 64 = .inl (0, 62, .inl (eIA (A 0))) from hmh13.2.1) (by omega) (by omega) (by unfold i32; omega) (rR_d hr (by omega) (by omega)) ?_
        refine eW_iload_n 44 rfl rfl rfl ?_
        refine eW_icmp_ne 47 rfl rfl (by unfold i32; omega) (by unfold i32; omega) (fun c15 => ?_) (fun c15 => ?_)
        · refine eW_aload_n 56 rfl rfl rfl ?_
          refine eW_aload_n 57 rfl rfl rfl ?_
          refine eW_getfield 60 rfl rfl (Nat.ble_eq_true_of_le (by omega)) rfl (show h13 63 = .inr (11, [.ref 64, .ref 65, .ref 66, .ref 67, vI (s 4), vI (s 5), vI (s 6), vI 1, vI (s 8), vI (s 9), .ref 68, vI (s 11), vI (s 12), .ref 69, vI (s 14), .ref 70, .ref 71, vI (s 17), vI (s 18), vI (s 19), vI (s 20), .ref 72, vI (s 22)]) from hmh13.1) rfl ⟨rfl, fun _ h9 => nomatch h9⟩ ?_
          refine eW_callVH 63 [.ref 63, .ref 64] [] [] rfl rfl rfl rfl (Nat.ble_eq_true_of_le (by omega)) (show h13 63 = .inr (11, [.ref 64, .ref 65, .ref 66, .ref 67, vI (s 4), vI (s 5), vI (s 6), vI 1, vI (s 8), vI (s 9), .ref 68, vI (s 11), vI (s 12), .ref 69, vI (s 14), .ref 70, .ref 71, vI (s 17), vI (s 18), vI (s 19), vI (s 20), .ref 72, vI (s 22)]) from hmh13.1) rfl rfl rfl (m_keeps (d := d + 0) hmh13 hN hw6 hw5) rfl rfl ?_
          intro h16 fh16
          obtain ⟨s5, K5, f9h16⟩ := fh16
          obtain ⟨f8h16, hk⟩ := f9h16
          have hmh16 : mM h16 (sUp (sUp s 5 s5) 7 0) (mUp A 1 K5) := f8h16.1
          have frh16 : mFr h h16 := mFr_t frh13 f8h16.2
          refine eW_aload_n 64 rfl rfl rfl ?_
          refine eW_getfield 67 rfl rfl (Nat.ble_eq_true_of_le (by omega)) rfl (show h16 63 = .inr (11, [.ref 64, .ref 65, .ref 66, .ref 67, vI (s 4), vI s5, vI (s 6), vI 0, vI (s 8), vI (s 9), .ref 68, vI (s 11), vI (s 12), .ref 69, vI (s 14), .ref 70, .ref 71, vI (s 17), vI (s 18), vI (s 19), vI (s 20), .ref 72, vI (s 22)]) from hmh16.1) rfl ⟨rfl, fun _ h9 => nomatch h9⟩ ?_
          refine eW_bipush 69 rfl rfl 7 rfl ?_
          refine eW_iload_n 70 rfl rfl rfl ?_
          refine eW_iadd 71 rfl rfl ?_
          refine eW_iaload 72 rfl rfl (gDig G t) (Nat.ble_eq_true_of_le (by omega)) (show h16 64 = .inl (0, 62, .inl (eIA (A 0))) from hmh16.2.1) (by omega) (by omega) (by unfold i32; omega) (rR_d hr (by omega) (by omega)) ?_
          refine eW_istore_n 73 rfl rfl [(3, vI (gDig G t)), (0, .ref 63), (1, vI t), (2, vI x)] rfl rfl ?_
          refine eW_aload_n 74 rfl rfl rfl ?_
          refine eW_getfield 77 rfl rfl (Nat.ble_eq_true_of_le (by omega)) rfl (show h16 63 = .inr (11, [.ref 64, .ref 65, .ref 66, .ref 67, vI (s 4), vI s5, vI (s 6), vI 0, vI (s 8), vI (s 9), .ref 68, vI (s 11), vI (s 12), .ref 69, vI (s 14), .ref 70, .ref 71, vI (s 17), vI (s 18), vI (s 19), vI (s 20), .ref 72, vI (s 22)]) from hmh16.1) rfl ⟨rfl, fun _ h9 => nomatch h9⟩ ?_
          refine eW_bipush 79 rfl rfl 7 rfl ?_
          refine eW_iload_n 80 rfl rfl rfl ?_
          refine eW_iadd 81 rfl rfl ?_
          refine eW_iload_n 82 rfl rfl rfl ?_
          refine eW_iastore 83 rfl rfl (Nat.ble_eq_true_of_le (by omega)) (show h16 64 = .inl (0, 62, .inl (eIA (A 0))) from hmh16.2.1) (by omega) (by omega) (by unfold i32; omega) rfl ?_
          intro h17 eh17 oh17
          have hmh17 : mM h17 (sUp (sUp s 5 s5) 7 0) (mUp (mUp A 0 (eUp (A 0) (7 + t).toNat x)) 1 K5) := mM_0 hmh16 eh17 oh17 ⟨rfl, rfl, rfl, rfl, rfl, rfl, rfl, rfl⟩
          have frh17 : mFr h h17 := mFr_a frh16 (by decide) oh17
          refine eW_iload_n 84 rfl rfl rfl ?_
          refine eW_ret_i rfl rfl (Or.inl rfl) ?_
          have ho : oDig G t x = (0, 0, 0, gSetD G t x) := by
            exact oDig_f (by omega) (by omega)
          refine ⟨_, _, _, _, rfl, hmh17, frh17, ?_⟩
          unfold mOp
          rw [ho]
          refine ⟨rfl, ?_, (fun e => absurd (show (0 : Int) = 3 from e) (by decide)), (fun _ => ⟨rfl, rfl⟩), (fun _ => ⟨hk, rfl⟩), (fun e => absurd rfl e), rfl, rfl, rfl, rfl, rfl, rfl, rfl, rfl, rfl, rfl, rfl⟩
          exact rR_dig hr (by omega)
        · refine eW_aload_n 48 rfl rfl rfl ?_
          refine eW_iconst 49 rfl rfl ?_
          refine eW_iconst 50 rfl rfl ?_
          refine eW_iload_n 51 rfl rfl rfl ?_
          refine eW_callVH 54 [.ref 63, vI 2, vI 4, vI x] [] [vI 0] rfl rfl rfl rfl (Nat.ble_eq_true_of_le (by omega)) (show h13 63 = .inr (11, [.ref 64, .ref 65, .ref 66, .ref 67, vI (s 4), vI (s 5), vI (s 6), vI 1, vI (s 8), vI (s 9), .ref 68, vI (s 11), vI (s 12), .ref 69, vI (s 14), .ref 70, .ref 71, vI (s 17), vI (s 18), vI (s 19), vI (s 20), .ref 72, vI (s 22)]) from hmh13.1) rfl rfl rfl (m_refuses (d := d + 1) hmh13 hN ) rfl rfl ?_
          intro h18 fh18
          have hmh18 : mM h18 (sUp (sUp (sUp s 7 2) 8 4) 9 x) A := fh18.1
          have frh18 : mFr h h18 := mFr_t frh13 fh18.2
          refine eW_ret_i rfl rfl (Or.inl rfl) ?_
          have ho : oDig G t x = (3, 4, x, G) := by
            exact oDig_r (by omega) (by omega)
          refine ⟨_, _, _, _, rfl, hmh18, frh18, ?_⟩
          unfold mOp
          rw [ho]
          refine ⟨rfl, ?_, (fun _ => ⟨rfl, rfl⟩), (fun e => absurd rfl e), (fun e => absurd (show (3 : Int) = 0 from e) (by decide)), (fun _ => ⟨rfl, rfl, rfl⟩), rfl, rfl, rfl, rfl, rfl, rfl, rfl, rfl, rfl, rfl, rfl⟩
          exact hr
      · refine eW_iconst 33 rfl rfl ?_
        refine eW_ret_i rfl rfl (Or.inl rfl) ?_
        have ho : oDig G t x = (2, 0, 0, G) := by
          exact oDig_b (by omega)
        refine ⟨_, _, _, _, rfl, hmh13, frh13, ?_⟩
        unfold mOp
        rw [ho]
        refine ⟨rfl, ?_, (fun e => absurd (show (2 : Int) = 3 from e) (by decide)), (fun _ => ⟨rfl, rfl⟩), (fun e => absurd (show (2 : Int) = 0 from e) (by decide)), (fun _ => ⟨rfl, rfl, rfl⟩), rfl, rfl, rfl, rfl, rfl, rfl, rfl, rfl, rfl, rfl, rfl⟩
        exact hr
    · refine eW_iconst 22 rfl rfl ?_
      refine eW_goto rfl ?_
      have hflq19 := eD_c ((0 : Int) < 0)
      refine eW_callVH 29 [.ref 63, vI 0] [] [vI (eB01 (decide ((0 : Int) < 0)))] rfl rfl rfl rfl (Nat.ble_eq_true_of_le (by omega)) hm.1 rfl rfl rfl (m_fails (d := d + 1) hm hN (by unfold i32; omega)) rfl rfl ?_
      intro h20 fh20
      have hmh20 : mM h20 (sUp s 7 0) A := fh20.1
      have frh20 : mFr h h20 := mFr_t (fun _ _ => rfl) fh20.2
      refine eW_if_eq 32 rfl rfl (by unfold i32; omega) (fun c21 => ?_) (fun c21 => ?_)
      · refine eW_aload_n 35 rfl rfl rfl ?_
        refine eW_getfield 38 rfl rfl (Nat.ble_eq_true_of_le (by omega)) rfl (show h20 63 = .inr (11, [.ref 64, .ref 65, .ref 66, .ref 67, vI (s 4), vI (s 5), vI (s 6), vI 0, vI (s 8), vI (s 9), .ref 68, vI (s 11), vI (s 12), .ref 69, vI (s 14), .ref 70, .ref 71, vI (s 17), vI (s 18), vI (s 19), vI (s 20), .ref 72, vI (s 22)]) from hmh20.1) rfl ⟨rfl, fun _ h9 => nomatch h9⟩ ?_
        refine eW_bipush 40 rfl rfl 7 rfl ?_
        refine eW_iload_n 41 rfl rfl rfl ?_
        refine eW_iadd 42 rfl rfl ?_
        refine eW_iaload 43 rfl rfl (gDig G t) (Nat.ble_eq_true_of_le (by omega)) (show h20 64 = .inl (0, 62, .inl (eIA (A 0))) from hmh20.2.1) (by omega) (by omega) (by unfold i32; omega) (rR_d hr (by omega) (by omega)) ?_
        refine eW_iload_n 44 rfl rfl rfl ?_
        refine eW_icmp_ne 47 rfl rfl (by unfold i32; omega) (by unfold i32; omega) (fun c22 => ?_) (fun c22 => ?_)
        · refine eW_aload_n 56 rfl rfl rfl ?_
          refine eW_aload_n 57 rfl rfl rfl ?_
          refine eW_getfield 60 rfl rfl (Nat.ble_eq_true_of_le (by omega)) rfl (show h20 63 = .inr (11, [.ref 64, .ref 65, .ref 66, .ref 67, vI (s 4), vI (s 5), vI (s 6), vI 0, vI (s 8), vI (s 9), .ref 68, vI (s 11), vI (s 12), .ref 69, vI (s 14), .ref 70, .ref 71, vI (s 17), vI (s 18), vI (s 19), vI (s 20), .ref 72, vI (s 22)]) from hmh20.1) rfl ⟨rfl, fun _ h9 => nomatch h9⟩ ?_
          refine eW_callVH 63 [.ref 63, .ref 64] [] [] rfl rfl rfl rfl (Nat.ble_eq_true_of_le (by omega)) (show h20 63 = .inr (11, [.ref 64, .ref 65, .ref 66, .ref 67, vI (s 4), vI (s 5), vI (s 6), vI 0, vI (s 8), vI (s 9), .ref 68, vI (s 11), vI (s 12), .ref 69, vI (s 14), .ref 70, .ref 71, vI (s 17), vI (s 18), vI (s 19), vI (s 20), .ref 72, vI (s 22)]) from hmh20.1) rfl rfl rfl (m_keeps (d := d + 0) hmh20 hN hw6 hw5) rfl rfl ?_
          intro h23 fh23
          obtain ⟨s5, K5, f9h23⟩ := fh23
          obtain ⟨f8h23, hk⟩ := f9h23
          have hmh23 : mM h23 (sUp (sUp s 5 s5) 7 0) (mUp A 1 K5) := f8h23.1
          have frh23 : mFr h h23 := mFr_t frh20 f8h23.2
          refine eW_aload_n 64 rfl rfl rfl ?_
          refine eW_getfield 67 rfl rfl (Nat.ble_eq_true_of_le (by omega)) rfl (show h23 63 = .inr (11, [.ref 64, .ref 65, .ref 66, .ref 67, vI (s 4), vI s5, vI (s 6), vI 0, vI (s 8), vI (s 9), .ref 68, vI (s 11), vI (s 12), .ref 69, vI (s 14), .ref 70, .ref 71, vI (s 17), vI (s 18), vI (s 19), vI (s 20), .ref 72, vI (s 22)]) from hmh23.1) rfl ⟨rfl, fun _ h9 => nomatch h9⟩ ?_
          refine eW_bipush 69 rfl rfl 7 rfl ?_
          refine eW_iload_n 70 rfl rfl rfl ?_
          refine eW_iadd 71 rfl rfl ?_
          refine eW_iaload 72 rfl rfl (gDig G t) (Nat.ble_eq_true_of_le (by omega)) (show h23 64 = .inl (0, 62, .inl (eIA (A 0))) from hmh23.2.1) (by omega) (by omega) (by unfold i32; omega) (rR_d hr (by omega) (by omega)) ?_
          refine eW_istore_n 73 rfl rfl [(3, vI (gDig G t)), (0, .ref 63), (1, vI t), (2, vI x)] rfl rfl ?_
          refine eW_aload_n 74 rfl rfl rfl ?_
          refine eW_getfield 77 rfl rfl (Nat.ble_eq_true_of_le (by omega)) rfl (show h23 63 = .inr (11, [.ref 64, .ref 65, .ref 66, .ref 67, vI (s 4), vI s5, vI (s 6), vI 0, vI (s 8), vI (s 9), .ref 68, vI (s 11), vI (s 12), .ref 69, vI (s 14), .ref 70, .ref 71, vI (s 17), vI (s 18), vI (s 19), vI (s 20), .ref 72, vI (s 22)]) from hmh23.1) rfl ⟨rfl, fun _ h9 => nomatch h9⟩ ?_
          refine eW_bipush 79 rfl rfl 7 rfl ?_
          refine eW_iload_n 80 rfl rfl rfl ?_
          refine eW_iadd 81 rfl rfl ?_
          refine eW_iload_n 82 rfl rfl rfl ?_
          refine eW_iastore 83 rfl rfl (Nat.ble_eq_true_of_le (by omega)) (show h23 64 = .inl (0, 62, .inl (eIA (A 0))) from hmh23.2.1) (by omega) (by omega) (by unfold i32; omega) rfl ?_
          intro h24 eh24 oh24
          have hmh24 : mM h24 (sUp (sUp s 5 s5) 7 0) (mUp (mUp A 0 (eUp (A 0) (7 + t).toNat x)) 1 K5) := mM_0 hmh23 eh24 oh24 ⟨rfl, rfl, rfl, rfl, rfl, rfl, rfl, rfl⟩
          have frh24 : mFr h h24 := mFr_a frh23 (by decide) oh24
          refine eW_iload_n 84 rfl rfl rfl ?_
          refine eW_ret_i rfl rfl (Or.inl rfl) ?_
          have ho : oDig G t x = (0, 0, 0, gSetD G t x) := by
            exact oDig_f (by omega) (by omega)
          refine ⟨_, _, _, _, rfl, hmh24, frh24, ?_⟩
          unfold mOp
          rw [ho]
          refine ⟨rfl, ?_, (fun e => absurd (show (0 : Int) = 3 from e) (by decide)), (fun _ => ⟨rfl, rfl⟩), (fun _ => ⟨hk, rfl⟩), (fun e => absurd rfl e), rfl, rfl, rfl, rfl, rfl, rfl, rfl, rfl, rfl, rfl, rfl⟩
          exact rR_dig hr (by omega)
        · refine eW_aload_n 48 rfl rfl rfl ?_
          refine eW_iconst 49 rfl rfl ?_
          refine eW_iconst 50 rfl rfl ?_
          refine eW_iload_n 51 rfl rfl rfl ?_
          refine eW_callVH 54 [.ref 63, vI 2, vI 4, vI x] [] [vI 0] rfl rfl rfl rfl (Nat.ble_eq_true_of_le (by omega)) (show h20 63 = .inr (11, [.ref 64, .ref 65, .ref 66, .ref 67, vI (s 4), vI (s 5), vI (s 6), vI 0, vI (s 8), vI (s 9), .ref 68, vI (s 11), vI (s 12), .ref 69, vI (s 14), .ref 70, .ref 71, vI (s 17), vI (s 18), vI (s 19), vI (s 20), .ref 72, vI (s 22)]) from hmh20.1) rfl rfl rfl (m_refuses (d := d + 1) hmh20 hN ) rfl rfl ?_
          intro h25 fh25
          have hmh25 : mM h25 (sUp (sUp (sUp s 7 2) 8 4) 9 x) A := fh25.1
          have frh25 : mFr h h25 := mFr_t frh20 fh25.2
          refine eW_ret_i rfl rfl (Or.inl rfl) ?_
          have ho : oDig G t x = (3, 4, x, G) := by
            exact oDig_r (by omega) (by omega)
          refine ⟨_, _, _, _, rfl, hmh25, frh25, ?_⟩
          unfold mOp
          rw [ho]
          refine ⟨rfl, ?_, (fun _ => ⟨rfl, rfl⟩), (fun e => absurd rfl e), (fun e => absurd (show (3 : Int) = 0 from e) (by decide)), (fun _ => ⟨rfl, rfl, rfl⟩), rfl, rfl, rfl, rfl, rfl, rfl, rfl, rfl, rfl, rfl, rfl⟩
          exact hr
      · refine eW_iconst 33 rfl rfl ?_
        refine eW_ret_i rfl rfl (Or.inl rfl) ?_
        exfalso; omega
theorem m_scoop {d N : Nat} {h : eHp} {s : Nat → Int} {A : Nat → Nat → Int} (hm : mM h s A) (hN : 75 ≤ N) {c : Int} {G : eGd} (hr : rR G (A 0)) (hI : gI c G) (hw6 : s 6 = 0 ∨ s 6 = 1) (hw5 : 0 ≤ s 5 ∧ s 5 ≤ 8) {p t l : Int} (hp : i32 p) (ht : i32 t) (hl : i32 l) : eSp (d + 4) eM_X7_scoop [.ref 63, vI p, vI t, vI l] N h (mOpQ (oScp G p t l) cSc (gMake G (p, t, l)).2.2.2.1 s A h N) := by
  refine eSp_of [(0, .ref 63), (1, vI p), (2, vI t), (3, vI l)] rfl rfl ?_
  have hG := hI.1
  have hG9 := hG
  obtain ⟨g1, g2, g3, g4⟩ := hG9
  unfold i32 at hp ht hl
  have hd := gDig_le hG t
  have hmp := hI.2.2.1 p.toNat
  refine eW_aload_n 1 rfl rfl rfl ?_
  refine eW_aload_n 2 rfl rfl rfl ?_
  refine eW_iload_n 3 rfl rfl rfl ?_
  have hipq1 := gHas_c G p
  refine eW_callV 6 [.ref 63, vI p] [.ref 63] [vI (eB01 (gHas G p)), .ref 63] rfl rfl rfl rfl (Nat.ble_eq_true_of_le (by omega)) hm.1 rfl rfl rfl (m_isPit (d := d + 1) hm hN hr hG (by unfold i32; omega)) rfl rfl ?_
  refine eW_if_ne 9 rfl rfl (by unfold i32; omega) (fun c2 => ?_) (fun c2 => ?_)
  · refine eW_iload_n 14 rfl rfl rfl ?_
    refine eW_iconst 15 rfl rfl ?_
    refine eW_bipush 17 rfl rfl 6 rfl ?_
    have hinq3 := eD_c ((1 : Int) ≤ t ∧ t ≤ 6)
    refine eW_callS 20 [vI t, vI 1, vI 6] [.ref 63] [vI (eB01 (decide ((1 : Int) ≤ t ∧ t ≤ 6))), .ref 63] rfl rfl rfl (Or.inl rfl) rfl rfl rfl (m_in (d := d + 2) (by unfold i32; omega) (by unfold i32; omega) (by unfold i32; omega)) rfl rfl ?_
    refine eW_if_eq 23 rfl rfl (by unfold i32; omega) (fun c4 => ?_) (fun c4 => ?_)
    · refine eW_iconst 41 rfl rfl ?_
      refine eW_goto rfl ?_
      have hflq5 := eD_c ((0 : Int) < 2)
      refine eW_callVH 48 [.ref 63, vI 2] [] [vI (eB01 (decide ((0 : Int) < 2)))] rfl rfl rfl rfl (Nat.ble_eq_true_of_le (by omega)) hm.1 rfl rfl rfl (m_fails (d := d + 2) hm hN (by unfold i32; omega)) rfl rfl ?_
      intro h6 fh6
      have hmh6 : mM h6 (sUp s 7 2) A := fh6.1
      have frh6 : mFr h h6 := mFr_t (fun _ _ => rfl) fh6.2
      refine eW_if_eq 51 rfl rfl (by unfold i32; omega) (fun c7 => ?_) (fun c7 => ?_)
      · refine eW_aload_n 54 rfl rfl rfl ?_
        refine eW_iload_n 55 rfl rfl rfl ?_
        have hmbq8 := g3 p.toNat (by omega)
        refine eW_callV 58 [.ref 63, vI p] [] [vI (G.1 p.toNat)] rfl rfl rfl rfl (Nat.ble_eq_true_of_le (by omega)) (show h6 63 = .inr (11, [.ref 64, .ref 65, .ref 66, .ref 67, vI (s 4), vI (s 5), vI (s 6), vI 2, vI (s 8), vI (s 9), .ref 68, vI (s 11), vI (s 12), .ref 69, vI (s 14), .ref 70, .ref 71, vI (s 17), vI (s 18), vI (s 19), vI (s 20), .ref 72, vI (s 22)]) from hmh6.1) rfl rfl rfl (m_marbles (d := d + 2) hmh6 hN hr hG (by omega)) rfl rfl ?_
        refine eW_istore 60 rfl rfl [(4, vI (G.1 p.toNat)), (0, .ref 63), (1, vI p), (2, vI t), (3, vI l)] rfl rfl ?_
        refine eW_iload_n 61 rfl rfl rfl ?_
        refine eW_iload 63 rfl rfl rfl ?_
        refine eW_iload_n 64 rfl rfl rfl ?_
        refine eW_isub 65 rfl rfl ?_
        refine eW_icmp_le 68 rfl rfl (by unfold i32; omega) (by unfold i32; omega) (fun c9 => ?_) (fun c9 => ?_)
        · refine eW_iload_n 78 rfl rfl rfl ?_
          refine eW_if_ne 81 rfl rfl (by unfold i32; omega) (fun c10 => ?_) (fun c10 => ?_)
          · refine eW_iload_n 86 rfl rfl rfl ?_
            refine eW_iload 88 rfl rfl rfl ?_
            refine eW_iload_n 89 rfl rfl rfl ?_
            refine eW_isub 90 rfl rfl ?_
            refine eW_icmp_ne 93 rfl rfl (by unfold i32; omega) (by unfold i32; omega) (fun c11 => ?_) (fun c11 => ?_)
            · refine eW_iconst 98 rfl rfl ?_
              refine eW_istore 100 rfl rfl [(5, vI 4), (4, vI (G.1 p.toNat)), (0, .ref 63), (1, vI p), (2, vI t), (3, vI l)] rfl rfl ?_
              refine eW_aload_n 101 rfl rfl rfl ?_
              refine eW_getfield 104 rfl rfl (Nat.ble_eq_true_of_le (by omega)) rfl (show h6 63 = .inr (11, [.ref 64, .ref 65, .ref 66, .ref 67, vI (s 4), vI (s 5), vI (s 6), vI 2, vI (s 8), vI (s 9), .ref 68, vI (s 11), vI (s 12), .ref 69, vI (s 14), .ref 70, .ref 71, vI (s 17), vI (s 18), vI (s 19), vI (s 20), .ref 72, vI (s 22)]) from hmh6.1) rfl ⟨rfl, fun _ h9 => nomatch h9⟩ ?_
              refine eW_bipush 106 rfl rfl 7 rfl ?_
              refine eW_iload_n 107 rfl rfl rfl ?_
              refine eW_iadd 108 rfl rfl ?_
              refine eW_iaload 109 rfl rfl (gDig G t) (Nat.ble_eq_true_of_le (by omega)) (show h6 64 = .inl (0, 62, .inl (eIA (A 0))) from hmh6.2.1) (by omega) (by omega) (by unfold i32; omega) (rR_d hr (by omega) (by omega)) ?_
              refine eW_iload 111 rfl rfl rfl ?_
              refine eW_iand 112 rfl rfl ((gDig G t) / 4 % 2 * 4) (eAnd4 hd.1 hd.2) ?_
              refine eW_if_ne 115 rfl rfl (by unfold i32; omega) (fun c12 => ?_) (fun c12 => ?_)
              · have hl9 : gLets (gDig G) (G.1 p.toNat) t l = true := gLets_t (by omega)
                have hM9 : gMay G (p, t, l) := ⟨⟨by show 0 ≤ p; omega, by show p < _; omega⟩, ⟨by show 1 ≤ t; omega, by show t ≤ 6; omega⟩, hl9⟩
                refine eW_aload_n 132 rfl rfl rfl ?_
                refine eW_aload_n 133 rfl rfl rfl ?_
                refine eW_getfield 136 rfl rfl (Nat.ble_eq_true_of_le (by omega)) rfl (show h6 63 = .inr (11, [.ref 64, .ref 65, .ref 66, .ref 67, vI (s 4), vI (s 5), vI (s 6), vI 2, vI (s 8), vI (s 9), .ref 68, vI (s 11), vI (s 12), .ref 69, vI (s 14), .ref 70, .ref 71, vI (s 17), vI (s 18), vI (s 19), vI (s 20), .ref 72, vI (s 22)]) from hmh6.1) rfl ⟨rfl, fun _ h9 => nomatch h9⟩ ?_
                refine eW_callVH 139 [.ref 63, .ref 64] [] [] rfl rfl rfl rfl (Nat.ble_eq_true_of_le (by omega)) (show h6 63 = .inr (11, [.ref 64, .ref 65, .ref 66, .ref 67, vI (s 4), vI (s 5), vI (s 6), vI 2, vI (s 8), vI (s 9), .ref 68, vI (s 11), vI (s 12), .ref 69, vI (s 14), .ref 70, .ref 71, vI (s 17), vI (s 18), vI (s 19), vI (s 20), .ref 72, vI (s 22)]) from hmh6.1) rfl rfl rfl (m_keeps (d := d + 1) hmh6 hN hw6 hw5) rfl rfl ?_
                intro h13 fh13
                obtain ⟨s5, K5, f9h13⟩ := fh13
                obtain ⟨f8h13, hk⟩ := f9h13
                have hmh13 : mM h13 (sUp (sUp s 5 s5) 7 0) (mUp A 1 K5) := f8h13.1
                have frh13 : mFr h h13 := mFr_t frh6 f8h13.2
                refine eW_aload_n 140 rfl rfl rfl ?_
                refine eW_iload_n 141 rfl rfl rfl ?_
                refine eW_iload_n 142 rfl rfl rfl ?_
                refine eW_iload_n 143 rfl rfl rfl ?_
                refine eW_callVH 146 [.ref 63, vI p, vI t, vI l] [] [] rfl rfl rfl rfl (Nat.ble_eq_true_of_le (by omega)) (show h13 63 = .inr (11, [.ref 64, .ref 65, .ref 66, .ref 67, vI (s 4), vI s5, vI (s 6), vI 0, vI (s 8), vI (s 9), .ref 68, vI (s 11), vI (s 12), .ref 69, vI (s 14), .ref 70, .ref 71, vI (s 17), vI (s 18), vI (s 19), vI (s 20), .ref 72, vI (s 22)]) from hmh13.1) rfl rfl rfl (m_takes (d := d + 1) hmh13 hN hr hI hM9) rfl rfl ?_
                intro h14 fh14
                obtain ⟨g9, f9h14⟩ := fh14
                obtain ⟨f8h14, hr9⟩ := f9h14
                have hmh14 : mM h14 (sUp (sUp s 5 s5) 7 0) (mUp (mUp A 0 g9) 1 K5) := f8h14.1
                have frh14 : mFr h h14 := mFr_t frh13 f8h14.2
                refine eW_aload_n 147 rfl rfl rfl ?_
                refine eW_getfield 150 rfl rfl (Nat.ble_eq_true_of_le (by omega)) rfl (show h14 63 = .inr (11, [.ref 64, .ref 65, .ref 66, .ref 67, vI (s 4), vI s5, vI (s 6), vI 0, vI (s 8), vI (s 9), .ref 68, vI (s 11), vI (s 12), .ref 69, vI (s 14), .ref 70, .ref 71, vI (s 17), vI (s 18), vI (s 19), vI (s 20), .ref 72, vI (s 22)]) from hmh14.1) rfl ⟨rfl, fun _ h9 => nomatch h9⟩ ?_
                refine eW_iconst 151 rfl rfl ?_
                refine eW_iaload 152 rfl rfl ((gMake G (p, t, l)).2.2.2.1) (Nat.ble_eq_true_of_le (by omega)) (show h14 64 = .inl (0, 62, .inl (eIA g9)) from hmh14.2.1) (by omega) (by omega) (by unfold i32; omega) (congrArg Int32.ofInt hr9.1) ?_
                refine eW_ret_i rfl rfl (Or.inl rfl) ?_
                have ho : oScp G p t l = (0, 0, 0, gMake G (p, t, l)) := by
                  exact oScp_f (by omega) (by omega) (by omega) (gLets_t (by omega))
                refine ⟨_, _, _, _, rfl, hmh14, frh14, ?_⟩
                unfold mOp
                rw [ho]
                refine ⟨rfl, ?_, (fun e => absurd (show (0 : Int) = 3 from e) (by decide)), (fun _ => ⟨rfl, rfl⟩), (fun _ => ⟨hk, rfl⟩), (fun e => absurd rfl e), rfl, rfl, rfl, rfl, rfl, rfl, rfl, rfl, rfl, rfl, rfl⟩
                exact hr9
              · refine eW_aload_n 116 rfl rfl rfl ?_
                refine eW_iconst 117 rfl rfl ?_
                refine eW_iconst 118 rfl rfl ?_
                refine eW_aload_n 119 rfl rfl rfl ?_
                refine eW_getfield 122 rfl rfl (Nat.ble_eq_true_of_le (by omega)) rfl (show h6 63 = .inr (11, [.ref 64, .ref 65, .ref 66, .ref 67, vI (s 4), vI (s 5), vI (s 6), vI 2, vI (s 8), vI (s 9), .ref 68, vI (s 11), vI (s 12), .ref 69, vI (s 14), .ref 70, .ref 71, vI (s 17), vI (s 18), vI (s 19), vI (s 20), .ref 72, vI (s 22)]) from hmh6.1) rfl ⟨rfl, fun _ h9 => nomatch h9⟩ ?_
                refine eW_bipush 124 rfl rfl 7 rfl ?_
                refine eW_iload_n 125 rfl rfl rfl ?_
                refine eW_iadd 126 rfl rfl ?_
                refine eW_iaload 127 rfl rfl (gDig G t) (Nat.ble_eq_true_of_le (by omega)) (show h6 64 = .inl (0, 62, .inl (eIA (A 0))) from hmh6.2.1) (by omega) (by omega) (by unfold i32; omega) (rR_d hr (by omega) (by omega)) ?_
                refine eW_callVH 130 [.ref 63, vI 3, vI 3, vI (gDig G t)] [] [vI 0] rfl rfl rfl rfl (Nat.ble_eq_true_of_le (by omega)) (show h6 63 = .inr (11, [.ref 64, .ref 65, .ref 66, .ref 67, vI (s 4), vI (s 5), vI (s 6), vI 2, vI (s 8), vI (s 9), .ref 68, vI (s 11), vI (s 12), .ref 69, vI (s 14), .ref 70, .ref 71, vI (s 17), vI (s 18), vI (s 19), vI (s 20), .ref 72, vI (s 22)]) from hmh6.1) rfl rfl rfl (m_refuses (d := d + 2) hmh6 hN ) rfl rfl ?_
                intro h15 fh15
                have hmh15 : mM h15 (sUp (sUp (sUp s 7 3) 8 3) 9 (gDig G t)) A := fh15.1
                have frh15 : mFr h h15 := mFr_t frh6 fh15.2
                refine eW_ret_i rfl rfl (Or.inl rfl) ?_
                have ho : oScp G p t l = (3, 3, gDig G t, G) := by
                  exact oScp_3 (by omega) (by omega) (by omega) (gLets_f (by omega))
                refine ⟨_, _, _, _, rfl, hmh15, frh15, ?_⟩
                unfold mOp
                rw [ho]
                refine ⟨rfl, ?_, (fun _ => ⟨rfl, rfl⟩), (fun e => absurd rfl e), (fun e => absurd (show (3 : Int) = 0 from e) (by decide)), (fun _ => ⟨rfl, rfl, rfl⟩), rfl, rfl, rfl, rfl, rfl, rfl, rfl, rfl, rfl, rfl, rfl⟩
                exact hr
            · refine eW_iconst 94 rfl rfl ?_
              refine eW_goto rfl ?_
              refine eW_istore 100 rfl rfl [(5, vI 2), (4, vI (G.1 p.toNat)), (0, .ref 63), (1, vI p), (2, vI t), (3, vI l)] rfl rfl ?_
              refine eW_aload_n 101 rfl rfl rfl ?_
              refine eW_getfield 104 rfl rfl (Nat.ble_eq_true_of_le (by omega)) rfl (show h6 63 = .inr (11, [.ref 64, .ref 65, .ref 66, .ref 67, vI (s 4), vI (s 5), vI (s 6), vI 2, vI (s 8), vI (s 9), .ref 68, vI (s 11), vI (s 12), .ref 69, vI (s 14), .ref 70, .ref 71, vI (s 17), vI (s 18), vI (s 19), vI (s 20), .ref 72, vI (s 22)]) from hmh6.1) rfl ⟨rfl, fun _ h9 => nomatch h9⟩ ?_
              refine eW_bipush 106 rfl rfl 7 rfl ?_
              refine eW_iload_n 107 rfl rfl rfl ?_
              refine eW_iadd 108 rfl rfl ?_
              refine eW_iaload 109 rfl rfl (gDig G t) (Nat.ble_eq_true_of_le (by omega)) (show h6 64 = .inl (0, 62, .inl (eIA (A 0))) from hmh6.2.1) (by omega) (by omega) (by unfold i32; omega) (rR_d hr (by omega) (by omega)) ?_
              refine eW_iload 111 rfl rfl rfl ?_
              refine eW_iand 112 rfl rfl ((gDig G t) / 2 % 2 * 2) (eAnd2 hd.1 hd.2) ?_
              refine eW_if_ne 115 rfl rfl (by unfold i32; omega) (fun c16 => ?_) (fun c16 => ?_)
              · have hl9 : gLets (gDig G) (G.1 p.toNat) t l = true := gLets_t (by omega)
                have hM9 : gMay G (p, t, l) := ⟨⟨by show 0 ≤ p; omega, by show p < _; omega⟩, ⟨by show 1 ≤ t; omega, by show t ≤ 6; omega⟩, hl9⟩
                refine eW_aload_n 132 rfl rfl rfl ?_
                refine eW_aload_n 133 rfl rfl rfl ?_
                refine eW_getfield 136 rfl rfl (Nat.ble_eq_true_of_le (by omega)) rfl (show h6 63 = .inr (11, [.ref 64, .ref 65, .ref 66, .ref 67, vI (s 4), vI (s 5), vI (s 6), vI 2, vI (s 8), vI (s 9), .ref 68, vI (s 11), vI (s 12), .ref 69, vI (s 14), .ref 70, .ref 71, vI (s 17), vI (s 18), vI (s 19), vI (s 20), .ref 72, vI (s 22)]) from hmh6.1) rfl ⟨rfl, fun _ h9 => nomatch h9⟩ ?_
                refine eW_callVH 139 [.ref 63, .ref 64] [] [] rfl rfl rfl rfl (Nat.ble_eq_true_of_le (by omega)) (show h6 63 = .inr (11, [.ref 64, .ref 65, .ref 66, .ref 67, vI (s 4), vI (s 5), vI (s 6), vI 2, vI (s 8), vI (s 9), .ref 68, vI (s 11), vI (s 12), .ref 69, vI (s 14), .ref 70, .ref 71, vI (s 17), vI (s 18), vI (s 19), vI (s 20), .ref 72, vI (s 22)]) from hmh6.1) rfl rfl rfl (m_keeps (d := d + 1) hmh6 hN hw6 hw5) rfl rfl ?_
                intro h17 fh17
                obtain ⟨s5, K5, f9h17⟩ := fh17
                obtain ⟨f8h17, hk⟩ := f9h17
                have hmh17 : mM h17 (sUp (sUp s 5 s5) 7 0) (mUp A 1 K5) := f8h17.1
                have frh17 : mFr h h17 := mFr_t frh6 f8h17.2
                refine eW_aload_n 140 rfl rfl rfl ?_
                refine eW_iload_n 141 rfl rfl rfl ?_
                refine eW_iload_n 142 rfl rfl rfl ?_
                refine eW_iload_n 143 rfl rfl rfl ?_
                refine eW_callVH 146 [.ref 63, vI p, vI t, vI l] [] [] rfl rfl rfl rfl (Nat.ble_eq_true_of_le (by omega)) (show h17 63 = .inr (11, [.ref 64, .ref 65, .ref 66, .ref 67, vI (s 4), vI s5, vI (s 6), vI 0, vI (s 8), vI (s 9), .ref 68, vI (s 11), vI (s 12), .ref 69, vI (s 14), .ref 70, .ref 71, vI (s 17), vI (s 18), vI (s 19), vI (s 20), .ref 72, vI (s 22)]) from hmh17.1) rfl rfl rfl (m_takes (d := d + 1) hmh17 hN hr hI hM9) rfl rfl ?_
                intro h18 fh18
                obtain ⟨g9, f9h18⟩ := fh18
                obtain ⟨f8h18, hr9⟩ := f9h18
                have hmh18 : mM h18 (sUp (sUp s 5 s5) 7 0) (mUp (mUp A 0 g9) 1 K5) := f8h18.1
                have frh18 : mFr h h18 := mFr_t frh17 f8h18.2
                refine eW_aload_n 147 rfl rfl rfl ?_
                refine eW_getfield 150 rfl rfl (Nat.ble_eq_true_of_le (by omega)) rfl (show h18 63 = .inr (11, [.ref 64, .ref 65, .ref 66, .ref 67, vI (s 4), vI s5, vI (s 6), vI 0, vI (s 8), vI (s 9), .ref 68, vI (s 11), vI (s 12), .ref 69, vI (s 14), .ref 70, .ref 71, vI (s 17), vI (s 18), vI (s 19), vI (s 20), .ref 72, vI (s 22)]) from hmh18.1) rfl ⟨rfl, fun _ h9 => nomatch h9⟩ ?_
                refine eW_iconst 151 rfl rfl ?_
                refine eW_iaload 152 rfl rfl ((gMake G (p, t, l)).2.2.2.1) (Nat.ble_eq_true_of_le (by omega)) (show h18 64 = .inl (0, 62, .inl (eIA g9)) from hmh18.2.1) (by omega) (by omega) (by unfold i32; omega) (congrArg Int32.ofInt hr9.1) ?_
                refine eW_ret_i rfl rfl (Or.inl rfl) ?_
                have ho : oScp G p t l = (0, 0, 0, gMake G (p, t, l)) := by
                  exact oScp_f (by omega) (by omega) (by omega) (gLets_t (by omega))
                refine ⟨_, _, _, _, rfl, hmh18, frh18, ?_⟩
                unfold mOp
                rw [ho]
                refine ⟨rfl, ?_, (fun e => absurd (show (0 : Int) = 3 from e) (by decide)), (fun _ => ⟨rfl, rfl⟩), (fun _ => ⟨hk, rfl⟩), (fun e => absurd rfl e), rfl, rfl, rfl, rfl, rfl, rfl, rfl, rfl, rfl, rfl, rfl⟩
                exact hr9
              · refine eW_aload_n 116 rfl rfl rfl ?_
                refine eW_iconst 117 rfl rfl ?_
                refine eW_iconst 118 rfl rfl ?_
                refine eW_aload_n 119 rfl rfl rfl ?_
                refine eW_getfield 122 rfl rfl (Nat.ble_eq_true_of_le (by omega)) rfl (show h6 63 = .inr (11, [.ref 64, .ref 65, .ref 66, .ref 67, vI (s 4), vI (s 5), vI (s 6), vI 2, vI (s 8), vI (s 9), .ref 68, vI (s 11), vI (s 12), .ref 69, vI (s 14), .ref 70, .ref 71, vI (s 17), vI (s 18), vI (s 19), vI (s 20), .ref 72, vI (s 22)]) from hmh6.1) rfl ⟨rfl, fun _ h9 => nomatch h9⟩ ?_
                refine eW_bipush 124 rfl rfl 7 rfl ?_
                refine eW_iload_n 125 rfl rfl rfl ?_
                refine eW_iadd 126 rfl rfl ?_
                refine eW_iaload 127 rfl rfl (gDig G t) (Nat.ble_eq_true_of_le (by omega)) (show h6 64 = .inl (0, 62, .inl (eIA (A 0))) from hmh6.2.1) (by omega) (by omega) (by unfold i32; omega) (rR_d hr (by omega) (by omega)) ?_
                refine eW_callVH 130 [.ref 63, vI 3, vI 3, vI (gDig G t)] [] [vI 0] rfl rfl rfl rfl (Nat.ble_eq_true_of_le (by omega)) (show h6 63 = .inr (11, [.ref 64, .ref 65, .ref 66, .ref 67, vI (s 4), vI (s 5), vI (s 6), vI 2, vI (s 8), vI (s 9), .ref 68, vI (s 11), vI (s 12), .ref 69, vI (s 14), .ref 70, .ref 71, vI (s 17), vI (s 18), vI (s 19), vI (s 20), .ref 72, vI (s 22)]) from hmh6.1) rfl rfl rfl (m_refuses (d := d + 2) hmh6 hN ) rfl rfl ?_
                intro h19 fh19
                have hmh19 : mM h19 (sUp (sUp (sUp s 7 3) 8 3) 9 (gDig G t)) A := fh19.1
                have frh19 : mFr h h19 := mFr_t frh6 fh19.2
                refine eW_ret_i rfl rfl (Or.inl rfl) ?_
                have ho : oScp G p t l = (3, 3, gDig G t, G) := by
                  exact oScp_3 (by omega) (by omega) (by omega) (gLets_f (by omega))
                refine ⟨_, _, _, _, rfl, hmh19, frh19, ?_⟩
                unfold mOp
                rw [ho]
                refine ⟨rfl, ?_, (fun _ => ⟨rfl, rfl⟩), (fun e => absurd rfl e), (fun e => absurd (show (3 : Int) = 0 from e) (by decide)), (fun _ => ⟨rfl, rfl, rfl⟩), rfl, rfl, rfl, rfl, rfl, rfl, rfl, rfl, rfl, rfl, rfl⟩
                exact hr
          · refine eW_iconst 82 rfl rfl ?_
            refine eW_goto rfl ?_
            refine eW_istore 100 rfl rfl [(5, vI 1), (4, vI (G.1 p.toNat)), (0, .ref 63), (1, vI p), (2, vI t), (3, vI l)] rfl rfl ?_
            refine eW_aload_n 101 rfl rfl rfl ?_
            refine eW_getfield 104 rfl rfl (Nat.ble_eq_true_of_le (by omega)) rfl (show h6 63 = .inr (11, [.ref 64, .ref 65, .ref 66, .ref 67, vI (s 4), vI (s 5), vI (s 6), vI 2, vI (s 8), vI (s 9), .ref 68, vI (s 11), vI (s 12), .ref 69, vI (s 14), .ref 70, .ref 71, vI (s 17), vI (s 18), vI (s 19), vI (s 20), .ref 72, vI (s 22)]) from hmh6.1) rfl ⟨rfl, fun _ h9 => nomatch h9⟩ ?_
            refine eW_bipush 106 rfl rfl 7 rfl ?_
            refine eW_iload_n 107 rfl rfl rfl ?_
            refine eW_iadd 108 rfl rfl ?_
            refine eW_iaload 109 rfl rfl (gDig G t) (Nat.ble_eq_true_of_le (by omega)) (show h6 64 = .inl (0, 62, .inl (eIA (A 0))) from hmh6.2.1) (by omega) (by omega) (by unfold i32; omega) (rR_d hr (by omega) (by omega)) ?_
            refine eW_iload 111 rfl rfl rfl ?_
            refine eW_iand 112 rfl rfl ((gDig G t) % 2) (eAnd1 hd.1 hd.2) ?_
            refine eW_if_ne 115 rfl rfl (by unfold i32; omega) (fun c20 => ?_) (fun c20 => ?_)
            · have hl9 : gLets (gDig G) (G.1 p.toNat) t l = true := gLets_t (by omega)
              have hM9 : gMay G (p, t, l) := ⟨⟨by show 0 ≤ p; omega, by show p < _; omega⟩, ⟨by show 1 ≤ t; omega, by show t ≤ 6; omega⟩, hl9⟩
              refine eW_aload_n 132 rfl rfl rfl ?_
              refine eW_aload_n 133 rfl rfl rfl ?_
              refine eW_getfield 136 rfl rfl (Nat.ble_eq_true_of_le (by omega)) rfl (show h6 63 = .inr (11, [.ref 64, .ref 65, .ref 66, .ref 67, vI (s 4), vI (s 5), vI (s 6), vI 2, vI (s 8), vI (s 9), .ref 68, vI (s 11), vI (s 12), .ref 69, vI (s 14), .ref 70, .ref 71, vI (s 17), vI (s 18), vI (s 19), vI (s 20), .ref 72, vI (s 22)]) from hmh6.1) rfl ⟨rfl, fun _ h9 => nomatch h9⟩ ?_
              refine eW_callVH 139 [.ref 63, .ref 64] [] [] rfl rfl rfl rfl (Nat.ble_eq_true_of_le (by omega)) (show h6 63 = .inr (11, [.ref 64, .ref 65, .ref 66, .ref 67, vI (s 4), vI (s 5), vI (s 6), vI 2, vI (s 8), vI (s 9), .ref 68, vI (s 11), vI (s 12), .ref 69, vI (s 14), .ref 70, .ref 71, vI (s 17), vI (s 18), vI (s 19), vI (s 20), .ref 72, vI (s 22)]) from hmh6.1) rfl rfl rfl (m_keeps (d := d + 1) hmh6 hN hw6 hw5) rfl rfl ?_
              intro h21 fh21
              obtain ⟨s5, K5, f9h21⟩ := fh21
              obtain ⟨f8h21, hk⟩ := f9h21
              have hmh21 : mM h21 (sUp (sUp s 5 s5) 7 0) (mUp A 1 K5) := f8h21.1
              have frh21 : mFr h h21 := mFr_t frh6 f8h21.2
              refine eW_aload_n 140 rfl rfl rfl ?_
              refine eW_iload_n 141 rfl rfl rfl ?_
              refine eW_iload_n 142 rfl rfl rfl ?_
              refine eW_iload_n 143 rfl rfl rfl ?_
              refine eW_callVH 146 [.ref 63, vI p, vI t, vI l] [] [] rfl rfl rfl rfl (Nat.ble_eq_true_of_le (by omega)) (show h21 63 = .inr (11, [.ref 64, .ref 65, .ref 66, .ref 67, vI (s 4), vI s5, vI (s 6), vI 0, vI (s 8), vI (s 9), .ref 68, vI (s 11), vI (s 12), .ref 69, vI (s 14), .ref 70, .ref 71, vI (s 17), vI (s 18), vI (s 19), vI (s 20), .ref 72, vI (s 22)]) from hmh21.1) rfl rfl rfl (m_takes (d := d + 1) hmh21 hN hr hI hM9) rfl rfl ?_
              intro h22 fh22
              obtain ⟨g9, f9h22⟩ := fh22
              obtain ⟨f8h22, hr9⟩ := f9h22
              have hmh22 : mM h22 (sUp (sUp s 5 s5) 7 0) (mUp (mUp A 0 g9) 1 K5) := f8h22.1
              have frh22 : mFr h h22 := mFr_t frh21 f8h22.2
              refine eW_aload_n 147 rfl rfl rfl ?_
              refine eW_getfield 150 rfl rfl (Nat.ble_eq_true_of_le (by omega)) rfl (show h22 63 = .inr (11, [.ref 64, .ref 65, .ref 66, .ref 67, vI (s 4), vI s5, vI (s 6), vI 0, vI (s 8), vI (s 9), .ref 68, vI (s 11), vI (s 12), .ref 69, vI (s 14), .ref 70, .ref 71, vI (s 17), vI (s 18), vI (s 19), vI (s 20), .ref 72, vI (s 22)]) from hmh22.1) rfl ⟨rfl, fun _ h9 => nomatch h9⟩ ?_
              refine eW_iconst 151 rfl rfl ?_
              refine eW_iaload 152 rfl rfl ((gMake G (p, t, l)).2.2.2.1) (Nat.ble_eq_true_of_le (by omega)) (show h22 64 = .inl (0, 62, .inl (eIA g9)) from hmh22.2.1) (by omega) (by omega) (by unfold i32; omega) (congrArg Int32.ofInt hr9.1) ?_
              refine eW_ret_i rfl rfl (Or.inl rfl) ?_
              have ho : oScp G p t l = (0, 0, 0, gMake G (p, t, l)) := by
                exact oScp_f (by omega) (by omega) (by omega) (gLets_t (by omega))
              refine ⟨_, _, _, _, rfl, hmh22, frh22, ?_⟩
              unfold mOp
              rw [ho]
              refine ⟨rfl, ?_, (fun e => absurd (show (0 : Int) = 3 from e) (by decide)), (fun _ => ⟨rfl, rfl⟩), (fun _ => ⟨hk, rfl⟩), (fun e => absurd rfl e), rfl, rfl, rfl, rfl, rfl, rfl, rfl, rfl, rfl, rfl, rfl⟩
              exact hr9
            · refine eW_aload_n 116 rfl rfl rfl ?_
              refine eW_iconst 117 rfl rfl ?_
              refine eW_iconst 118 rfl rfl ?_
              refine eW_aload_n 119 rfl rfl rfl ?_
              refine eW_getfield 122 rfl rfl (Nat.ble_eq_true_of_le (by omega)) rfl (show h6 63 = .inr (11, [.ref 64, .ref 65, .ref 66, .ref 67, vI (s 4), vI (s 5), vI (s 6), vI 2, vI (s 8), vI (s 9), .ref 68, vI (s 11), vI (s 12), .ref 69, vI (s 14), .ref 70, .ref 71, vI (s 17), vI (s 18), vI (s 19), vI (s 20), .ref 72, vI (s 22)]) from hmh6.1) rfl ⟨rfl, fun _ h9 => nomatch h9⟩ ?_
              refine eW_bipush 124 rfl rfl 7 rfl ?_
              refine eW_iload_n 125 rfl rfl rfl ?_
              refine eW_iadd 126 rfl rfl ?_
              refine eW_iaload 127 rfl rfl (gDig G t) (Nat.ble_eq_true_of_le (by omega)) (show h6 64 = .inl (0, 62, .inl (eIA (A 0))) from hmh6.2.1) (by omega) (by omega) (by unfold i32; omega) (rR_d hr (by omega) (by omega)) ?_
              refine eW_callVH 130 [.ref 63, vI 3, vI 3, vI (gDig G t)] [] [vI 0] rfl rfl rfl rfl (Nat.ble_eq_true_of_le (by omega)) (show h6 63 = .inr (11, [.ref 64, .ref 65, .ref 66, .ref 67, vI (s 4), vI (s 5), vI (s 6), vI 2, vI (s 8), vI (s 9), .ref 68, vI (s 11), vI (s 12), .ref 69, vI (s 14), .ref 70, .ref 71, vI (s 17), vI (s 18), vI (s 19), vI (s 20), .ref 72, vI (s 22)]) from hmh6.1) rfl rfl rfl (m_refuses (d := d + 2) hmh6 hN ) rfl rfl ?_
              intro h23 fh23
              have hmh23 : mM h23 (sUp (sUp (sUp s 7 3) 8 3) 9 (gDig G t)) A := fh23.1
              have frh23 : mFr h h23 := mFr_t frh6 fh23.2
              refine eW_ret_i rfl rfl (Or.inl rfl) ?_
              have ho : oScp G p t l = (3, 3, gDig G t, G) := by
                exact oScp_3 (by omega) (by omega) (by omega) (gLets_f (by omega))
              refine ⟨_, _, _, _, rfl, hmh23, frh23, ?_⟩
              unfold mOp
              rw [ho]
              refine ⟨rfl, ?_, (fun _ => ⟨rfl, rfl⟩), (fun e => absurd rfl e), (fun e => absurd (show (3 : Int) = 0 from e) (by decide)), (fun _ => ⟨rfl, rfl, rfl⟩), rfl, rfl, rfl, rfl, rfl, rfl, rfl, rfl, rfl, rfl, rfl⟩
              exact hr
        · refine eW_aload_n 69 rfl rfl rfl ?_
          refine eW_iconst 70 rfl rfl ?_
          refine eW_iconst 71 rfl rfl ?_
          refine eW_iload 73 rfl rfl rfl ?_
          refine eW_callVH 76 [.ref 63, vI 3, vI 2, vI (G.1 p.toNat)] [] [vI 0] rfl rfl rfl rfl (Nat.ble_eq_true_of_le (by omega)) (show h6 63 = .inr (11, [.ref 64, .ref 65, .ref 66, .ref 67, vI (s 4), vI (s 5), vI (s 6), vI 2, vI (s 8), vI (s 9), .ref 68, vI (s 11), vI (s 12), .ref 69, vI (s 14), .ref 70, .ref 71, vI (s 17), vI (s 18), vI (s 19), vI (s 20), .ref 72, vI (s 22)]) from hmh6.1) rfl rfl rfl (m_refuses (d := d + 2) hmh6 hN ) rfl rfl ?_
          intro h24 fh24
          have hmh24 : mM h24 (sUp (sUp (sUp s 7 3) 8 2) 9 (G.1 p.toNat)) A := fh24.1
          have frh24 : mFr h h24 := mFr_t frh6 fh24.2
          refine eW_ret_i rfl rfl (Or.inl rfl) ?_
          have ho : oScp G p t l = (3, 2, G.1 p.toNat, G) := by
            exact oScp_2 (by omega) (by omega) (by omega)
          refine ⟨_, _, _, _, rfl, hmh24, frh24, ?_⟩
          unfold mOp
          rw [ho]
          refine ⟨rfl, ?_, (fun _ => ⟨rfl, rfl⟩), (fun e => absurd rfl e), (fun e => absurd (show (3 : Int) = 0 from e) (by decide)), (fun _ => ⟨rfl, rfl, rfl⟩), rfl, rfl, rfl, rfl, rfl, rfl, rfl, rfl, rfl, rfl, rfl⟩
          exact hr
      · refine eW_iconst 52 rfl rfl ?_
        refine eW_ret_i rfl rfl (Or.inl rfl) ?_
        have ho : oScp G p t l = (2, 0, 0, G) := by
          exact oScp_b (by omega) (by omega)
        refine ⟨_, _, _, _, rfl, hmh6, frh6, ?_⟩
        unfold mOp
        rw [ho]
        refine ⟨rfl, ?_, (fun e => absurd (show (2 : Int) = 3 from e) (by decide)), (fun _ => ⟨rfl, rfl⟩), (fun e => absurd (show (2 : Int) = 0 from e) (by decide)), (fun _ => ⟨rfl, rfl, rfl⟩), rfl, rfl, rfl, rfl, rfl, rfl, rfl, rfl, rfl, rfl, rfl⟩
        exact hr
    · refine eW_iload_n 24 rfl rfl rfl ?_
      refine eW_if_lt 27 rfl rfl (by unfold i32; omega) (fun c25 => ?_) (fun c25 => ?_)
      · refine eW_iconst 41 rfl rfl ?_
        refine eW_goto rfl ?_
        have hflq26 := eD_c ((0 : Int) < 2)
        refine eW_callVH 48 [.ref 63, vI 2] [] [vI (eB01 (decide ((0 : Int) < 2)))] rfl rfl rfl rfl (Nat.ble_eq_true_of_le (by omega)) hm.1 rfl rfl rfl (m_fails (d := d + 2) hm hN (by unfold i32; omega)) rfl rfl ?_
        intro h27 fh27
        have hmh27 : mM h27 (sUp s 7 2) A := fh27.1
        have frh27 : mFr h h27 := mFr_t (fun _ _ => rfl) fh27.2
        refine eW_if_eq 51 rfl rfl (by unfold i32; omega) (fun c28 => ?_) (fun c28 => ?_)
        · refine eW_aload_n 54 rfl rfl rfl ?_
          refine eW_iload_n 55 rfl rfl rfl ?_
          have hmbq29 := g3 p.toNat (by omega)
          refine eW_callV 58 [.ref 63, vI p] [] [vI (G.1 p.toNat)] rfl rfl rfl rfl (Nat.ble_eq_true_of_le (by omega)) (show h27 63 = .inr (11, [.ref 64, .ref 65, .ref 66, .ref 67, vI (s 4), vI (s 5), vI (s 6), vI 2, vI (s 8), vI (s 9), .ref 68, vI (s 11), vI (s 12), .ref 69, vI (s 14), .ref 70, .ref 71, vI (s 17), vI (s 18), vI (s 19), vI (s 20), .ref 72, vI (s 22)]) from hmh27.1) rfl rfl rfl (m_marbles (d := d + 2) hmh27 hN hr hG (by omega)) rfl rfl ?_
          refine eW_istore 60 rfl rfl [(4, vI (G.1 p.toNat)), (0, .ref 63), (1, vI p), (2, vI t), (3, vI l)] rfl rfl ?_
          refine eW_iload_n 61 rfl rfl rfl ?_
          refine eW_iload 63 rfl rfl rfl ?_
          refine eW_iload_n 64 rfl rfl rfl ?_
          refine eW_isub 65 rfl rfl ?_
          refine eW_icmp_le 68 rfl rfl (by unfold i32; omega) (by unfold i32; omega) (fun c30 => ?_) (fun c30 => ?_)
          · refine eW_iload_n 78 rfl rfl rfl ?_
            refine eW_if_ne 81 rfl rfl (by unfold i32; omega) (fun c31 => ?_) (fun c31 => ?_)
            · refine eW_iload_n 86 rfl rfl rfl ?_
              refine eW_iload 88 rfl rfl rfl ?_
              refine eW_iload_n 89 rfl rfl rfl ?_
              refine eW_isub 90 rfl rfl ?_
              refine eW_icmp_ne 93 rfl rfl (by unfold i32; omega) (by unfold i32; omega) (fun c32 => ?_) (fun c32 => ?_)
              · refine eW_iconst 98 rfl rfl ?_
                refine eW_istore 100 rfl rfl [(5, vI 4), (4, vI (G.1 p.toNat)), (0, .ref 63), (1, vI p), (2, vI t), (3, vI l)] rfl rfl ?_
                refine eW_aload_n 101 rfl rfl rfl ?_
                refine eW_getfield 104 rfl rfl (Nat.ble_eq_true_of_le (by omega)) rfl (show h27 63 = .inr (11, [.ref 64, .ref 65, .ref 66, .ref 67, vI (s 4), vI (s 5), vI (s 6), vI 2, vI (s 8), vI (s 9), .ref 68, vI (s 11), vI (s 12), .ref 69, vI (s 14), .ref 70, .ref 71, vI (s 17), vI (s 18), vI (s 19), vI (s 20), .ref 72, vI (s 22)]) from hmh27.1) rfl ⟨rfl, fun _ h9 => nomatch h9⟩ ?_
                refine eW_bipush 106 rfl rfl 7 rfl ?_
                refine eW_iload_n 107 rfl rfl rfl ?_
                refine eW_iadd 108 rfl rfl ?_
                refine eW_iaload 109 rfl rfl (gDig G t) (Nat.ble_eq_true_of_le (by omega)) (show h27 64 = .inl (0, 62, .inl (eIA (A 0))) from hmh27.2.1) (by omega) (by omega) (by unfold i32; omega) (rR_d hr (by omega) (by omega)) ?_
                refine eW_iload 111 rfl rfl rfl ?_
                refine eW_iand 112 rfl rfl ((gDig G t) / 4 % 2 * 4) (eAnd4 hd.1 hd.2) ?_
                refine eW_if_ne 115 rfl rfl (by unfold i32; omega) (fun c33 => ?_) (fun c33 => ?_)
                · have hl9 : gLets (gDig G) (G.1 p.toNat) t l = true := gLets_t (by omega)
                  have hM9 : gMay G (p, t, l) := ⟨⟨by show 0 ≤ p; omega, by show p < _; omega⟩, ⟨by show 1 ≤ t; omega, by show t ≤ 6; omega⟩, hl9⟩
                  refine eW_aload_n 132 rfl rfl rfl ?_
                  refine eW_aload_n 133 rfl rfl rfl ?_
                  refine eW_getfield 136 rfl rfl (Nat.ble_eq_true_of_le (by omega)) rfl (show h27 63 = .inr (11, [.ref 64, .ref 65, .ref 66, .ref 67, vI (s 4), vI (s 5), vI (s 6), vI 2, vI (s 8), vI (s 9), .ref 68, vI (s 11), vI (s 12), .ref 69, vI (s 14), .ref 70, .ref 71, vI (s 17), vI (s 18), vI (s 19), vI (s 20), .ref 72, vI (s 22)]) from hmh27.1) rfl ⟨rfl, fun _ h9 => nomatch h9⟩ ?_
                  refine eW_callVH 139 [.ref 63, .ref 64] [] [] rfl rfl rfl rfl (Nat.ble_eq_true_of_le (by omega)) (show h27 63 = .inr (11, [.ref 64, .ref 65, .ref 66, .ref 67, vI (s 4), vI (s 5), vI (s 6), vI 2, vI (s 8), vI (s 9), .ref 68, vI (s 11), vI (s 12), .ref 69, vI (s 14), .ref 70, .ref 71, vI (s 17), vI (s 18), vI (s 19), vI (s 20), .ref 72, vI (s 22)]) from hmh27.1) rfl rfl rfl (m_keeps (d := d + 1) hmh27 hN hw6 hw5) rfl rfl ?_
                  intro h34 fh34
                  obtain ⟨s5, K5, f9h34⟩ := fh34
                  obtain ⟨f8h34, hk⟩ := f9h34
                  have hmh34 : mM h34 (sUp (sUp s 5 s5) 7 0) (mUp A 1 K5) := f8h34.1
                  have frh34 : mFr h h34 := mFr_t frh27 f8h34.2
                  refine eW_aload_n 140 rfl rfl rfl ?_
                  refine eW_iload_n 141 rfl rfl rfl ?_
                  refine eW_iload_n 142 rfl rfl rfl ?_
                  refine eW_iload_n 143 rfl rfl rfl ?_
                  refine eW_callVH 146 [.ref 63, vI p, vI t, vI l] [] [] rfl rfl rfl rfl (Nat.ble_eq_true_of_le (by omega)) (show h34 63 = .inr (11, [.ref 64, .ref 65, .ref 66, .ref 67, vI (s 4), vI s5, vI (s 6), vI 0, vI (s 8), vI (s 9), .ref 68, vI (s 11), vI (s 12), .ref 69, vI (s 14), .ref 70, .ref 71, vI (s 17), vI (s 18), vI (s 19), vI (s 20), .ref 72, vI (s 22)]) from hmh34.1) rfl rfl rfl (m_takes (d := d + 1) hmh34 hN hr hI hM9) rfl rfl ?_
                  intro h35 fh35
                  obtain ⟨g9, f9h35⟩ := fh35
                  obtain ⟨f8h35, hr9⟩ := f9h35
                  have hmh35 : mM h35 (sUp (sUp s 5 s5) 7 0) (mUp (mUp A 0 g9) 1 K5) := f8h35.1
                  have frh35 : mFr h h35 := mFr_t frh34 f8h35.2
                  refine eW_aload_n 147 rfl rfl rfl ?_
                  refine eW_getfield 150 rfl rfl (Nat.ble_eq_true_of_le (by omega)) rfl (show h35 63 = .inr (11, [.ref 64, .ref 65, .ref 66, .ref 67, vI (s 4), vI s5, vI (s 6), vI 0, vI (s 8), vI (s 9), .ref 68, vI (s 11), vI (s 12), .ref 69, vI (s 14), .ref 70, .ref 71, vI (s 17), vI (s 18), vI (s 19), vI (s 20), .ref 72, vI (s 22)]) from hmh35.1) rfl ⟨rfl, fun _ h9 => nomatch h9⟩ ?_
                  refine eW_iconst 151 rfl rfl ?_
                  refine eW_iaload 152 rfl rfl ((gMake G (p, t, l)).2.2.2.1) (Nat.ble_eq_true_of_le (by omega)) (show h35 64 = .inl (0, 62, .inl (eIA g9)) from hmh35.2.1) (by omega) (by omega) (by unfold i32; omega) (congrArg Int32.ofInt hr9.1) ?_
                  refine eW_ret_i rfl rfl (Or.inl rfl) ?_
                  have ho : oScp G p t l = (0, 0, 0, gMake G (p, t, l)) := by
                    exact oScp_f (by omega) (by omega) (by omega) (gLets_t (by omega))
                  refine ⟨_, _, _, _, rfl, hmh35, frh35, ?_⟩
                  unfold mOp
                  rw [ho]
                  refine ⟨rfl, ?_, (fun e => absurd (show (0 : Int) = 3 from e) (by decide)), (fun _ => ⟨rfl, rfl⟩), (fun _ => ⟨hk, rfl⟩), (fun e => absurd rfl e), rfl, rfl, rfl, rfl, rfl, rfl, rfl, rfl, rfl, rfl, rfl⟩
                  exact hr9
                · refine eW_aload_n 116 rfl rfl rfl ?_
                  refine eW_iconst 117 rfl rfl ?_
                  refine eW_iconst 118 rfl rfl ?_
                  refine eW_aload_n 119 rfl rfl rfl ?_
                  refine eW_getfield 122 rfl rfl (Nat.ble_eq_true_of_le (by omega)) rfl (show h27 63 = .inr (11, [.ref 64, .ref 65, .ref 66, .ref 67, vI (s 4), vI (s 5), vI (s 6), vI 2, vI (s 8), vI (s 9), .ref 68, vI (s 11), vI (s 12), .ref 69, vI (s 14), .ref 70, .ref 71, vI (s 17), vI (s 18), vI (s 19), vI (s 20), .ref 72, vI (s 22)]) from hmh27.1) rfl ⟨rfl, fun _ h9 => nomatch h9⟩ ?_
                  refine eW_bipush 124 rfl rfl 7 rfl ?_
                  refine eW_iload_n 125 rfl rfl rfl ?_
                  refine eW_iadd 126 rfl rfl ?_
                  refine eW_iaload 127 rfl rfl (gDig G t) (Nat.ble_eq_true_of_le (by omega)) (show h27 64 = .inl (0, 62, .inl (eIA (A 0))) from hmh27.2.1) (by omega) (by omega) (by unfold i32; omega) (rR_d hr (by omega) (by omega)) ?_
                  refine eW_callVH 130 [.ref 63, vI 3, vI 3, vI (gDig G t)] [] [vI 0] rfl rfl rfl rfl (Nat.ble_eq_true_of_le (by omega)) (show h27 63 = .inr (11, [.ref 64, .ref 65, .ref 66, .ref 67, vI (s 4), vI (s 5), vI (s 6), vI 2, vI (s 8), vI (s 9), .ref 68, vI (s 11), vI (s 12), .ref 69, vI (s 14), .ref 70, .ref 71, vI (s 17), vI (s 18), vI (s 19), vI (s 20), .ref 72, vI (s 22)]) from hmh27.1) rfl rfl rfl (m_refuses (d := d + 2) hmh27 hN ) rfl rfl ?_
                  intro h36 fh36
                  have hmh36 : mM h36 (sUp (sUp (sUp s 7 3) 8 3) 9 (gDig G t)) A := fh36.1
                  have frh36 : mFr h h36 := mFr_t frh27 fh36.2
                  refine eW_ret_i rfl rfl (Or.inl rfl) ?_
                  have ho : oScp G p t l = (3, 3, gDig G t, G) := by
                    exact oScp_3 (by omega) (by omega) (by omega) (gLets_f (by omega))
                  refine ⟨_, _, _, _, rfl, hmh36, frh36, ?_⟩
                  unfold mOp
                  rw [ho]
                  refine ⟨rfl, ?_, (fun _ => ⟨rfl, rfl⟩), (fun e => absurd rfl e), (fun e => absurd (show (3 : Int) = 0 from e) (by decide)), (fun _ => ⟨rfl, rfl, rfl⟩), rfl, rfl, rfl, rfl, rfl, rfl, rfl, rfl, rfl, rfl, rfl⟩
                  exact hr
              · refine eW_iconst 94 rfl rfl ?_
                refine eW_goto rfl ?_
                refine eW_istore 100 rfl rfl [(5, vI 2), (4, vI (G.1 p.toNat)), (0, .ref 63), (1, vI p), (2, vI t), (3, vI l)] rfl rfl ?_
                refine eW_aload_n 101 rfl rfl rfl ?_
                refine eW_getfield 104 rfl rfl (Nat.ble_eq_true_of_le (by omega)) rfl (show h27 63 = .inr (11, [.ref 64, .ref 65, .ref 66, .ref 67, vI (s 4), vI (s 5), vI (s 6), vI 2, vI (s 8), vI (s 9), .ref 68, vI (s 11), vI (s 12), .ref 69, vI (s 14), .ref 70, .ref 71, vI (s 17), vI (s 18), vI (s 19), vI (s 20), .ref 72, vI (s 22)]) from hmh27.1) rfl ⟨rfl, fun _ h9 => nomatch h9⟩ ?_
                refine eW_bipush 106 rfl rfl 7 rfl ?_
                refine eW_iload_n 107 rfl rfl rfl ?_
                refine eW_iadd 108 rfl rfl ?_
                refine eW_iaload 109 rfl rfl (gDig G t) (Nat.ble_eq_true_of_le (by omega)) (show h27 64 = .inl (0, 62, .inl (eIA (A 0))) from hmh27.2.1) (by omega) (by omega) (by unfold i32; omega) (rR_d hr (by omega) (by omega)) ?_
                refine eW_iload 111 rfl rfl rfl ?_
                refine eW_iand 112 rfl rfl ((gDig G t) / 2 % 2 * 2) (eAnd2 hd.1 hd.2) ?_
                refine eW_if_ne 115 rfl rfl (by unfold i32; omega) (fun c37 => ?_) (fun c37 => ?_)
                · have hl9 : gLets (gDig G) (G.1 p.toNat) t l = true := gLets_t (by omega)
                  have hM9 : gMay G (p, t, l) := ⟨⟨by show 0 ≤ p; omega, by show p < _; omega⟩, ⟨by show 1 ≤ t; omega, by show t ≤ 6; omega⟩, hl9⟩
                  refine eW_aload_n 132 rfl rfl rfl ?_
                  refine eW_aload_n 133 rfl rfl rfl ?_
                  refine eW_getfield 136 rfl rfl (Nat.ble_eq_true_of_le (by omega)) rfl (show h27 63 = .inr (11, [.ref 64, .ref 65, .ref 66, .ref 67, vI (s 4), vI (s 5), vI (s 6), vI 2, vI (s 8), vI (s 9), .ref 68, vI (s 11), vI (s 12), .ref 69, vI (s 14), .ref 70, .ref 71, vI (s 17), vI (s 18), vI (s 19), vI (s 20), .ref 72, vI (s 22)]) from hmh27.1) rfl ⟨rfl, fun _ h9 => nomatch h9⟩ ?_
                  refine eW_callVH 139 [.ref 63, .ref 64] [] [] rfl rfl rfl rfl (Nat.ble_eq_true_of_le (by omega)) (show h27 63 = .inr (11, [.ref 64, .ref 65, .ref 66, .ref 67, vI (s 4), vI (s 5), vI (s 6), vI 2, vI (s 8), vI (s 9), .ref 68, vI (s 11), vI (s 12), .ref 69, vI (s 14), .ref 70, .ref 71, vI (s 17), vI (s 18), vI (s 19), vI (s 20), .ref 72, vI (s 22)]) from hmh27.1) rfl rfl rfl (m_keeps (d := d + 1) hmh27 hN hw6 hw5) rfl rfl ?_
                  intro h38 fh38
                  obtain ⟨s5, K5, f9h38⟩ := fh38
                  obtain ⟨f8h38, hk⟩ := f9h38
                  have hmh38 : mM h38 (sUp (sUp s 5 s5) 7 0) (mUp A 1 K5) := f8h38.1
                  have frh38 : mFr h h38 := mFr_t frh27 f8h38.2
                  refine eW_aload_n 140 rfl rfl rfl ?_
                  refine eW_iload_n 141 rfl rfl rfl ?_
                  refine eW_iload_n 142 rfl rfl rfl ?_
                  refine eW_iload_n 143 rfl rfl rfl ?_
                  refine eW_callVH 146 [.ref 63, vI p, vI t, vI l] [] [] rfl rfl rfl rfl (Nat.ble_eq_true_of_le (by omega)) (show h38 63 = .inr (11, [.ref 64, .ref 65, .ref 66, .ref 67, vI (s 4), vI s5, vI (s 6), vI 0, vI (s 8), vI (s 9), .ref 68, vI (s 11), vI (s 12), .ref 69, vI (s 14), .ref 70, .ref 71, vI (s 17), vI (s 18), vI (s 19), vI (s 20), .ref 72, vI (s 22)]) from hmh38.1) rfl rfl rfl (m_takes (d := d + 1) hmh38 hN hr hI hM9) rfl rfl ?_
                  intro h39 fh39
                  obtain ⟨g9, f9h39⟩ := fh39
                  obtain ⟨f8h39, hr9⟩ := f9h39
                  have hmh39 : mM h39 (sUp (sUp s 5 s5) 7 0) (mUp (mUp A 0 g9) 1 K5) := f8h39.1
                  have frh39 : mFr h h39 := mFr_t frh38 f8h39.2
                  refine eW_aload_n 147 rfl rfl rfl ?_
                  refine eW_getfield 150 rfl rfl (Nat.ble_eq_true_of_le (by omega)) rfl (show h39 63 = .inr (11, [.ref 64, .ref 65, .ref 66, .ref 67, vI (s 4), vI s5, vI (s 6), vI 0, vI (s 8), vI (s 9), .ref 68, vI (s 11), vI (s 12), .ref 69, vI (s 14), .ref 70, .ref 71, vI (s 17), vI (s 18), vI (s 19), vI (s 20), .ref 72, vI (s 22)]) from hmh39.1) rfl ⟨rfl, fun _ h9 => nomatch h9⟩ ?_
                  refine eW_iconst 151 rfl rfl ?_
                  refine eW_iaload 152 rfl rfl ((gMake G (p, t, l)).2.2.2.1) (Nat.ble_eq_true_of_le (by omega)) (show h39 64 = .inl (0, 62, .inl (eIA g9)) from hmh39.2.1) (by omega) (by omega) (by unfold i32; omega) (congrArg Int32.ofInt hr9.1) ?_
                  refine eW_ret_i rfl rfl (Or.inl rfl) ?_
                  have ho : oScp G p t l = (0, 0, 0, gMake G (p, t, l)) := by
                    exact oScp_f (by omega) (by omega) (by omega) (gLets_t (by omega))
                  refine ⟨_, _, _, _, rfl, hmh39, frh39, ?_⟩
                  unfold mOp
                  rw [ho]
                  refine ⟨rfl, ?_, (fun e => absurd (show (0 : Int) = 3 from e) (by decide)), (fun _ => ⟨rfl, rfl⟩), (fun _ => ⟨hk, rfl⟩), (fun e => absurd rfl e), rfl, rfl, rfl, rfl, rfl, rfl, rfl, rfl, rfl, rfl, rfl⟩
                  exact hr9
                · refine eW_aload_n 116 rfl rfl rfl ?_
                  refine eW_iconst 117 rfl rfl ?_
                  refine eW_iconst 118 rfl rfl ?_
                  refine eW_aload_n 119 rfl rfl rfl ?_
                  refine eW_getfield 122 rfl rfl (Nat.ble_eq_true_of_le (by omega)) rfl (show h27 63 = .inr (11, [.ref 64, .ref 65, .ref 66, .ref 67, vI (s 4), vI (s 5), vI (s 6), vI 2, vI (s 8), vI (s 9), .ref 68, vI (s 11), vI (s 12), .ref 69, vI (s 14), .ref 70, .ref 71, vI (s 17), vI (s 18), vI (s 19), vI (s 20), .ref 72, vI (s 22)]) from hmh27.1) rfl ⟨rfl, fun _ h9 => nomatch h9⟩ ?_
                  refine eW_bipush 124 rfl rfl 7 rfl ?_
                  refine eW_iload_n 125 rfl rfl rfl ?_
                  refine eW_iadd 126 rfl rfl ?_
                  refine eW_iaload 127 rfl rfl (gDig G t) (Nat.ble_eq_true_of_le (by omega)) (show h27 64 = .inl (0, 62, .inl (eIA (A 0))) from hmh27.2.1) (by omega) (by omega) (by unfold i32; omega) (rR_d hr (by omega) (by omega)) ?_
                  refine eW_callVH 130 [.ref 63, vI 3, vI 3, vI (gDig G t)] [] [vI 0] rfl rfl rfl rfl (Nat.ble_eq_true_of_le (by omega)) (show h27 63 = .inr (11, [.ref 64, .ref 65, .ref 66, .ref 67, vI (s 4), vI (s 5), vI (s 6), vI 2, vI (s 8), vI (s 9), .ref 68, vI (s 11), vI (s 12), .ref 69, vI (s 14), .ref 70, .ref 71, vI (s 17), vI (s 18), vI (s 19), vI (s 20), .ref 72, vI (s 22)]) from hmh27.1) rfl rfl rfl (m_refuses (d := d + 2) hmh27 hN ) rfl rfl ?_
                  intro h40 fh40
                  have hmh40 : mM h40 (sUp (sUp (sUp s 7 3) 8 3) 9 (gDig G t)) A := fh40.1
                  have frh40 : mFr h h40 := mFr_t frh27 fh40.2
                  refine eW_ret_i rfl rfl (Or.inl rfl) ?_
                  have ho : oScp G p t l = (3, 3, gDig G t, G) := by
                    exact oScp_3 (by omega) (by omega) (by omega) (gLets_f (by omega))
                  refine ⟨_, _, _, _, rfl, hmh40, frh40, ?_⟩
                  unfold mOp
                  rw [ho]
                  refine ⟨rfl, ?_, (fun _ => ⟨rfl, rfl⟩), (fun e => absurd rfl e), (fun e => absurd (show (3 : Int) = 0 from e) (by decide)), (fun _ => ⟨rfl, rfl, rfl⟩), rfl, rfl, rfl, rfl, rfl, rfl, rfl, rfl, rfl, rfl, rfl⟩
                  exact hr
            · refine eW_iconst 82 rfl rfl ?_
              refine eW_goto rfl ?_
              refine eW_istore 100 rfl rfl [(5, vI 1), (4, vI (G.1 p.toNat)), (0, .ref 63), (1, vI p), (2, vI t), (3, vI l)] rfl rfl ?_
              refine eW_aload_n 101 rfl rfl rfl ?_
              refine eW_getfield 104 rfl rfl (Nat.ble_eq_true_of_le (by omega)) rfl (show h27 63 = .inr (11, [.ref 64, .ref 65, .ref 66, .ref 67, vI (s 4), vI (s 5), vI (s 6), vI 2, vI (s 8), vI (s 9), .ref 68, vI (s 11), vI (s 12), .ref 69, vI (s 14), .ref 70, .ref 71, vI (s 17), vI (s 18), vI (s 19), vI (s 20), .ref 72, vI (s 22)]) from hmh27.1) rfl ⟨rfl, fun _ h9 => nomatch h9⟩ ?_
              refine eW_bipush 106 rfl rfl 7 rfl ?_
              refine eW_iload_n 107 rfl rfl rfl ?_
              refine eW_iadd 108 rfl rfl ?_
              refine eW_iaload 109 rfl rfl (gDig G t) (Nat.ble_eq_true_of_le (by omega)) (show h27 64 = .inl (0, 62, .inl (eIA (A 0))) from hmh27.2.1) (by omega) (by omega) (by unfold i32; omega) (rR_d hr (by omega) (by omega)) ?_
              refine eW_iload 111 rfl rfl rfl ?_
              refine eW_iand 112 rfl rfl ((gDig G t) % 2) (eAnd1 hd.1 hd.2) ?_
              refine eW_if_ne 115 rfl rfl (by unfold i32; omega) (fun c41 => ?_) (fun c41 => ?_)
              · have hl9 : gLets (gDig G) (G.1 p.toNat) t l = true := gLets_t (by omega)
                have hM9 : gMay G (p, t, l) := ⟨⟨by show 0 ≤ p; omega, by show p < _; omega⟩, ⟨by show 1 ≤ t; omega, by show t ≤ 6; omega⟩, hl9⟩
                refine eW_aload_n 132 rfl rfl rfl ?_
                refine eW_aload_n 133 rfl rfl rfl ?_
                refine eW_getfield 136 rfl rfl (Nat.ble_eq_true_of_le (by omega)) rfl (show h27 63 = .inr (11, [.ref 64, .ref 65, .ref 66, .ref 67, vI (s 4), vI (s 5), vI (s 6), vI 2, vI (s 8), vI (s 9), .ref 68, vI (s 11), vI (s 12), .ref 69, vI (s 14), .ref 70, .ref 71, vI (s 17), vI (s 18), vI (s 19), vI (s 20), .ref 72, vI (s 22)]) from hmh27.1) rfl ⟨rfl, fun _ h9 => nomatch h9⟩ ?_
                refine eW_callVH 139 [.ref 63, .ref 64] [] [] rfl rfl rfl rfl (Nat.ble_eq_true_of_le (by omega)) (show h27 63 = .inr (11, [.ref 64, .ref 65, .ref 66, .ref 67, vI (s 4), vI (s 5), vI (s 6), vI 2, vI (s 8), vI (s 9), .ref 68, vI (s 11), vI (s 12), .ref 69, vI (s 14), .ref 70, .ref 71, vI (s 17), vI (s 18), vI (s 19), vI (s 20), .ref 72, vI (s 22)]) from hmh27.1) rfl rfl rfl (m_keeps (d := d + 1) hmh27 hN hw6 hw5) rfl rfl ?_
                intro h42 fh42
                obtain ⟨s5, K5, f9h42⟩ := fh42
                obtain ⟨f8h42, hk⟩ := f9h42
                have hmh42 : mM h42 (sUp (sUp s 5 s5) 7 0) (mUp A 1 K5) := f8h42.1
                have frh42 : mFr h h42 := mFr_t frh27 f8h42.2
                refine eW_aload_n 140 rfl rfl rfl ?_
                refine eW_iload_n 141 rfl rfl rfl ?_
                refine eW_iload_n 142 rfl rfl rfl ?_
                refine eW_iload_n 143 rfl rfl rfl ?_
                refine eW_callVH 146 [.ref 63, vI p, vI t, vI l] [] [] rfl rfl rfl rfl (Nat.ble_eq_true_of_le (by omega)) (show h42 63 = .inr (11, [.ref 64, .ref 65, .ref 66, .ref 67, vI (s 4), vI s5, vI (s 6), vI 0, vI (s 8), vI (s 9), .ref 68, vI (s 11), vI (s 12), .ref 69, vI (s 14), .ref 70, .ref 71, vI (s 17), vI (s 18), vI (s 19), vI (s 20), .ref 72, vI (s 22)]) from hmh42.1) rfl rfl rfl (m_takes (d := d + 1) hmh42 hN hr hI hM9) rfl rfl ?_
                intro h43 fh43
                obtain ⟨g9, f9h43⟩ := fh43
                obtain ⟨f8h43, hr9⟩ := f9h43
                have hmh43 : mM h43 (sUp (sUp s 5 s5) 7 0) (mUp (mUp A 0 g9) 1 K5) := f8h43.1
                have frh43 : mFr h h43 := mFr_t frh42 f8h43.2
                refine eW_aload_n 147 rfl rfl rfl ?_
                refine eW_getfield 150 rfl rfl (Nat.ble_eq_true_of_le (by omega)) rfl (show h43 63 = .inr (11, [.ref 64, .ref 65, .ref 66, .ref 67, vI (s 4), vI s5, vI (s 6), vI 0, vI (s 8), vI (s 9), .ref 68, vI (s 11), vI (s 12), .ref 69, vI (s 14), .ref 70, .ref 71, vI (s 17), vI (s 18), vI (s 19), vI (s 20), .ref 72, vI (s 22)]) from hmh43.1) rfl ⟨rfl, fun _ h9 => nomatch h9⟩ ?_
                refine eW_iconst 151 rfl rfl ?_
                refine eW_iaload 152 rfl rfl ((gMake G (p, t, l)).2.2.2.1) (Nat.ble_eq_true_of_le (by omega)) (show h43 64 = .inl (0, 62, .inl (eIA g9)) from hmh43.2.1) (by omega) (by omega) (by unfold i32; omega) (congrArg Int32.ofInt hr9.1) ?_
                refine eW_ret_i rfl rfl (Or.inl rfl) ?_
                have ho : oScp G p t l = (0, 0, 0, gMake G (p, t, l)) := by
                  exact oScp_f (by omega) (by omega) (by omega) (gLets_t (by omega))
                refine ⟨_, _, _, _, rfl, hmh43, frh43, ?_⟩
                unfold mOp
                rw [ho]
                refine ⟨rfl, ?_, (fun e => absurd (show (0 : Int) = 3 from e) (by decide)), (fun _ => ⟨rfl, rfl⟩), (fun _ => ⟨hk, rfl⟩), (fun e => absurd rfl e), rfl, rfl, rfl, rfl, rfl, rfl, rfl, rfl, rfl, rfl, rfl⟩
                exact hr9
              · refine eW_aload_n 116 rfl rfl rfl ?_
                refine eW_iconst 117 rfl rfl ?_
                refine eW_iconst 118 rfl rfl ?_
                refine eW_aload_n 119 rfl rfl rfl ?_
                refine eW_getfield 122 rfl rfl (Nat.ble_eq_true_of_le (by omega)) rfl (show h27 63 = .inr (11, [.ref 64, .ref 65, .ref 66, .ref 67, vI (s 4), vI (s 5), vI (s 6), vI 2, vI (s 8), vI (s 9), .ref 68, vI (s 11), vI (s 12), .ref 69, vI (s 14), .ref 70, .ref 71, vI (s 17), vI (s 18), vI (s 19), vI (s 20), .ref 72, vI (s 22)]) from hmh27.1) rfl ⟨rfl, fun _ h9 => nomatch h9⟩ ?_
                refine eW_bipush 124 rfl rfl 7 rfl ?_
                refine eW_iload_n 125 rfl rfl rfl ?_
                refine eW_iadd 126 rfl rfl ?_
                refine eW_iaload 127 rfl rfl (gDig G t) (Nat.ble_eq_true_of_le (by omega)) (show h27 64 = .inl (0, 62, .inl (eIA (A 0))) from hmh27.2.1) (by omega) (by omega) (by unfold i32; omega) (rR_d hr (by omega) (by omega)) ?_
                refine eW_callVH 130 [.ref 63, vI 3, vI 3, vI (gDig G t)] [] [vI 0] rfl rfl rfl rfl (Nat.ble_eq_true_of_le (by omega)) (show h27 63 = .inr (11, [.ref 64, .ref 65, .ref 66, .ref 67, vI (s 4), vI (s 5), vI (s 6), vI 2, vI (s 8), vI (s 9), .ref 68, vI (s 11), vI (s 12), .ref 69, vI (s 14), .ref 70, .ref 71, vI (s 17), vI (s 18), vI (s 19), vI (s 20), .ref 72, vI (s 22)]) from hmh27.1) rfl rfl rfl (m_refuses (d := d + 2) hmh27 hN ) rfl rfl ?_
                intro h44 fh44
                have hmh44 : mM h44 (sUp (sUp (sUp s 7 3) 8 3) 9 (gDig G t)) A := fh44.1
                have frh44 : mFr h h44 := mFr_t frh27 fh44.2
                refine eW_ret_i rfl rfl (Or.inl rfl) ?_
                have ho : oScp G p t l = (3, 3, gDig G t, G) := by
                  exact oScp_3 (by omega) (by omega) (by omega) (gLets_f (by omega))
                refine ⟨_, _, _, _, rfl, hmh44, frh44, ?_⟩
                unfold mOp
                rw [ho]
                refine ⟨rfl, ?_, (fun _ => ⟨rfl, rfl⟩), (fun e => absurd rfl e), (fun e => absurd (show (3 : Int) = 0 from e) (by decide)), (fun _ => ⟨rfl, rfl, rfl⟩), rfl, rfl, rfl, rfl, rfl, rfl, rfl, rfl, rfl, rfl, rfl⟩
                exact hr
          · refine eW_aload_n 69 rfl rfl rfl ?_
            refine eW_iconst 70 rfl rfl ?_
            refine eW_iconst 71 rfl rfl ?_
            refine eW_iload 73 rfl rfl rfl ?_
            refine eW_callVH 76 [.ref 63, vI 3, vI 2, vI (G.1 p.toNat)] [] [vI 0] rfl rfl rfl rfl (Nat.ble_eq_true_of_le (by omega)) (show h27 63 = .inr (11, [.ref 64, .ref 65, .ref 66, .ref 67, vI (s 4), vI (s 5), vI (s 6), vI 2, vI (s 8), vI (s 9), .ref 68, vI (s 11), vI (s 12), .ref 69, vI (s 14), .ref 70, .ref 71, vI (s 17), vI (s 18), vI (s 19), vI (s 20), .ref 72, vI (s 22)]) from hmh27.1) rfl rfl rfl (m_refuses (d := d + 2) hmh27 hN ) rfl rfl ?_
            intro h45 fh45
            have hmh45 : mM h45 (sUp (sUp (sUp s 7 3) 8 2) 9 (G.1 p.toNat)) A := fh45.1
            have frh45 : mFr h h45 := mFr_t frh27 fh45.2
            refine eW_ret_i rfl rfl (Or.inl rfl) ?_
            have ho : oScp G p t l = (3, 2, G.1 p.toNat, G) := by
              exact oScp_2 (by omega) (by omega) (by omega)
            refine ⟨_, _, _, _, rfl, hmh45, frh45, ?_⟩
            unfold mOp
            rw [ho]
            refine ⟨rfl, ?_, (fun _ => ⟨rfl, rfl⟩), (fun e => absurd rfl e), (fun e => absurd (show (3 : Int) = 0 from e) (by decide)), (fun _ => ⟨rfl, rfl, rfl⟩), rfl, rfl, rfl, rfl, rfl, rfl, rfl, rfl, rfl, rfl, rfl⟩
            exact hr
        · refine eW_iconst 52 rfl rfl ?_
          refine eW_ret_i rfl rfl (Or.inl rfl) ?_
          have ho : oScp G p t l = (2, 0, 0, G) := by
            exact oScp_b (by omega) (by omega)
          refine ⟨_, _, _, _, rfl, hmh27, frh27, ?_⟩
          unfold mOp
          rw [ho]
          refine ⟨rfl, ?_, (fun e => absurd (show (2 : Int) = 3 from e) (by decide)), (fun _ => ⟨rfl, rfl⟩), (fun e => absurd (show (2 : Int) = 0 from e) (by decide)), (fun _ => ⟨rfl, rfl, rfl⟩), rfl, rfl, rfl, rfl, rfl, rfl, rfl, rfl, rfl, rfl, rfl⟩
          exact hr
      · refine eW_iload_n 28 rfl rfl rfl ?_
        refine eW_if_ne 31 rfl rfl (by unfold i32; omega) (fun c46 => ?_) (fun c46 => ?_)
        · refine eW_iconst 45 rfl rfl ?_
          have hflq47 := eD_c ((0 : Int) < 0)
          refine eW_callVH 48 [.ref 63, vI 0] [] [vI (eB01 (decide ((0 : Int) < 0)))] rfl rfl rfl rfl (Nat.ble_eq_true_of_le (by omega)) hm.1 rfl rfl rfl (m_fails (d := d + 2) hm hN (by unfold i32; omega)) rfl rfl ?_
          intro h48 fh48
          have hmh48 : mM h48 (sUp s 7 0) A := fh48.1
          have frh48 : mFr h h48 := mFr_t (fun _ _ => rfl) fh48.2
          refine eW_if_eq 51 rfl rfl (by unfold i32; omega) (fun c49 => ?_) (fun c49 => ?_)
          · refine eW_aload_n 54 rfl rfl rfl ?_
            refine eW_iload_n 55 rfl rfl rfl ?_
            have hmbq50 := g3 p.toNat (by omega)
            refine eW_callV 58 [.ref 63, vI p] [] [vI (G.1 p.toNat)] rfl rfl rfl rfl (Nat.ble_eq_true_of_le (by omega)) (show h48 63 = .inr (11, [.ref 64, .ref 65, .ref 66, .ref 67, vI (s 4), vI (s 5), vI (s 6), vI 0, vI (s 8), vI (s 9), .ref 68, vI (s 11), vI (s 12), .ref 69, vI (s 14), .ref 70, .ref 71, vI (s 17), vI (s 18), vI (s 19), vI (s 20), .ref 72, vI (s 22)]) from hmh48.1) rfl rfl rfl (m_marbles (d := d + 2) hmh48 hN hr hG (by omega)) rfl rfl ?_
            refine eW_istore 60 rfl rfl [(4, vI (G.1 p.toNat)), (0, .ref 63), (1, vI p), (2, vI t), (3, vI l)] rfl rfl ?_
            refine eW_iload_n 61 rfl rfl rfl ?_
            refine eW_iload 63 rfl rfl rfl ?_
            refine eW_iload_n 64 rfl rfl rfl ?_
            refine eW_isub 65 rfl rfl ?_
            refine eW_icmp_le 68 rfl rfl (by unfold i32; omega) (by unfold i32; omega) (fun c51 => ?_) (fun c51 => ?_)
            · refine eW_iload_n 78 rfl rfl rfl ?_
              refine eW_if_ne 81 rfl rfl (by unfold i32; omega) (fun c52 => ?_) (fun c52 => ?_)
              · refine eW_iload_n 86 rfl rfl rfl ?_
                refine eW_iload 88 rfl rfl rfl ?_
                refine eW_iload_n 89 rfl rfl rfl ?_
                refine eW_isub 90 rfl rfl ?_
                refine eW_icmp_ne 93 rfl rfl (by unfold i32; omega) (by unfold i32; omega) (fun c53 => ?_) (fun c53 => ?_)
                · refine eW_iconst 98 rfl rfl ?_
                  refine eW_istore 100 rfl rfl [(5, vI 4), (4, vI (G.1 p.toNat)), (0, .ref 63), (1, vI p), (2, vI t), (3, vI l)] rfl rfl ?_
                  refine eW_aload_n 101 rfl rfl rfl ?_
                  refine eW_getfield 104 rfl rfl (Nat.ble_eq_true_of_le (by omega)) rfl (show h48 63 = .inr (11, [.ref 64, .ref 65, .ref 66, .ref 67, vI (s 4), vI (s 5), vI (s 6), vI 0, vI (s 8), vI (s 9), .ref 68, vI (s 11), vI (s 12), .ref 69, vI (s 14), .ref 70, .ref 71, vI (s 17), vI (s 18), vI (s 19), vI (s 20), .ref 72, vI (s 22)]) from hmh48.1) rfl ⟨rfl, fun _ h9 => nomatch h9⟩ ?_
                  refine eW_bipush 106 rfl rfl 7 rfl ?_
                  refine eW_iload_n 107 rfl rfl rfl ?_
                  refine eW_iadd 108 rfl rfl ?_
                  refine eW_iaload 109 rfl rfl (gDig G t) (Nat.ble_eq_true_of_le (by omega)) (show h48 64 = .inl (0, 62, .inl (eIA (A 0))) from hmh48.2.1) (by omega) (by omega) (by unfold i32; omega) (rR_d hr (by omega) (by omega)) ?_
                  refine eW_iload 111 rfl rfl rfl ?_
                  refine eW_iand 112 rfl rfl ((gDig G t) / 4 % 2 * 4) (eAnd4 hd.1 hd.2) ?_
                  refine eW_if_ne 115 rfl rfl (by unfold i32; omega) (fun c54 => ?_) (fun c54 => ?_)
                  · have hl9 : gLets (gDig G) (G.1 p.toNat) t l = true := gLets_t (by omega)
                    have hM9 : gMay G (p, t, l) := ⟨⟨by show 0 ≤ p; omega, by show p < _; omega⟩, ⟨by show 1 ≤ t; omega, by show t ≤ 6; omega⟩, hl9⟩
                    refine eW_aload_n 132 rfl rfl rfl ?_
                    refine eW_aload_n 133 rfl rfl rfl ?_
                    refine eW_getfield 136 rfl rfl (Nat.ble_eq_true_of_le (by omega)) rfl (show h48 63 = .inr (11, [.ref 64, .ref 65, .ref 66, .ref 67, vI (s 4), vI (s 5), vI (s 6), vI 0, vI (s 8), vI (s 9), .ref 68, vI (s 11), vI (s 12), .ref 69, vI (s 14), .ref 70, .ref 71, vI (s 17), vI (s 18), vI (s 19), vI (s 20), .ref 72, vI (s 22)]) from hmh48.1) rfl ⟨rfl, fun _ h9 => nomatch h9⟩ ?_
                    refine eW_callVH 139 [.ref 63, .ref 64] [] [] rfl rfl rfl rfl (Nat.ble_eq_true_of_le (by omega)) (show h48 63 = .inr (11, [.ref 64, .ref 65, .ref 66, .ref 67, vI (s 4), vI (s 5), vI (s 6), vI 0, vI (s 8), vI (s 9), .ref 68, vI (s 11), vI (s 12), .ref 69, vI (s 14), .ref 70, .ref 71, vI (s 17), vI (s 18), vI (s 19), vI (s 20), .ref 72, vI (s 22)]) from hmh48.1) rfl rfl rfl (m_keeps (d := d + 1) hmh48 hN hw6 hw5) rfl rfl ?_
                    intro h55 fh55
                    obtain ⟨s5, K5, f9h55⟩ := fh55
                    obtain ⟨f8h55, hk⟩ := f9h55
                    have hmh55 : mM h55 (sUp (sUp s 5 s5) 7 0) (mUp A 1 K5) := f8h55.1
                    have frh55 : mFr h h55 := mFr_t frh48 f8h55.2
                    refine eW_aload_n 140 rfl rfl rfl ?_
                    refine eW_iload_n 141 rfl rfl rfl ?_
                    refine eW_iload_n 142 rfl rfl rfl ?_
                    refine eW_iload_n 143 rfl rfl rfl ?_
                    refine eW_callVH 146 [.ref 63, vI p, vI t, vI l] [] [] rfl rfl rfl rfl (Nat.ble_eq_true_of_le (by omega)) (show h55 63 = .inr (11, [.ref 64, .ref 65, .ref 66, .ref 67, vI (s 4), vI s5, vI (s 6), vI 0, vI (s 8), vI (s 9), .ref 68, vI (s 11), vI (s 12), .ref 69, vI (s 14), .ref 70, .ref 71, vI (s 17), vI (s 18), vI (s 19), vI (s 20), .ref 72, vI (s 22)]) from hmh55.1) rfl rfl rfl (m_takes (d := d + 1) hmh55 hN hr hI hM9) rfl rfl ?_
                    intro h56 fh56
                    obtain ⟨g9, f9h56⟩ := fh56
                    obtain ⟨f8h56, hr9⟩ := f9h56
                    have hmh56 : mM h56 (sUp (sUp s 5 s5) 7 0) (mUp (mUp A 0 g9) 1 K5) := f8h56.1
                    have frh56 : mFr h h56 := mFr_t frh55 f8h56.2
                    refine eW_aload_n 147 rfl rfl rfl ?_
                    refine eW_getfield 150 rfl rfl (Nat.ble_eq_true_of_le (by omega)) rfl (show h56 63 = .inr (11, [.ref 64, .ref 65, .ref 66, .ref 67, vI (s 4), vI s5, vI (s 6), vI 0, vI (s 8), vI (s 9), .ref 68, vI (s 11), vI (s 12), .ref 69, vI (s 14), .ref 70, .ref 71, vI (s 17), vI (s 18), vI (s 19), vI (s 20), .ref 72, vI (s 22)]) from hmh56.1) rfl ⟨rfl, fun _ h9 => nomatch h9⟩ ?_
                    refine eW_iconst 151 rfl rfl ?_
                    refine eW_iaload 152 rfl rfl ((gMake G (p, t, l)).2.2.2.1) (Nat.ble_eq_true_of_le (by omega)) (show h56 64 = .inl (0, 62, .inl (eIA g9)) from hmh56.2.1) (by omega) (by omega) (by unfold i32; omega) (congrArg Int32.ofInt hr9.1) ?_
                    refine eW_ret_i rfl rfl (Or.inl rfl) ?_
                    have ho : oScp G p t l = (0, 0, 0, gMake G (p, t, l)) := by
                      exact oScp_f (by omega) (by omega) (by omega) (gLets_t (by omega))
                    refine ⟨_, _, _, _, rfl, hmh56, frh56, ?_⟩
                    unfold mOp
                    rw [ho]
                    refine ⟨rfl, ?_, (fun e => absurd (show (0 : Int) = 3 from e) (by decide)), (fun _ => ⟨rfl, rfl⟩), (fun _ => ⟨hk, rfl⟩), (fun e => absurd rfl e), rfl, rfl, rfl, rfl, rfl, rfl, rfl, rfl, rfl, rfl, rfl⟩
                    exact hr9
                  · refine eW_aload_n 116 rfl rfl rfl ?_
                    refine eW_iconst 117 rfl rfl ?_
                    refine eW_iconst 118 rfl rfl ?_
                    refine eW_aload_n 119 rfl rfl rfl ?_
                    refine eW_getfield 122 rfl rfl (Nat.ble_eq_true_of_le (by omega)) rfl (show h48 63 = .inr (11, [.ref 64, .ref 65, .ref 66, .ref 67, vI (s 4), vI (s 5), vI (s 6), vI 0, vI (s 8), vI (s 9), .ref 68, vI (s 11), vI (s 12), .ref 69, vI (s 14), .ref 70, .ref 71, vI (s 17), vI (s 18), vI (s 19), vI (s 20), .ref 72, vI (s 22)]) from hmh48.1) rfl ⟨rfl, fun _ h9 => nomatch h9⟩ ?_
                    refine eW_bipush 124 rfl rfl 7 rfl ?_
                    refine eW_iload_n 125 rfl rfl rfl ?_
                    refine eW_iadd 126 rfl rfl ?_
                    refine eW_iaload 127 rfl rfl (gDig G t) (Nat.ble_eq_true_of_le (by omega)) (show h48 64 = .inl (0, 62, .inl (eIA (A 0))) from hmh48.2.1) (by omega) (by omega) (by unfold i32; omega) (rR_d hr (by omega) (by omega)) ?_
                    refine eW_callVH 130 [.ref 63, vI 3, vI 3, vI (gDig G t)] [] [vI 0] rfl rfl rfl rfl (Nat.ble_eq_true_of_le (by omega)) (show h48 63 = .inr (11, [.ref 64, .ref 65, .ref 66, .ref 67, vI (s 4), vI (s 5), vI (s 6), vI 0, vI (s 8), vI (s 9), .ref 68, vI (s 11), vI (s 12), .ref 69, vI (s 14), .ref 70, .ref 71, vI (s 17), vI (s 18), vI (s 19), vI (s 20), .ref 72, vI (s 22)]) from hmh48.1) rfl rfl rfl (m_refuses (d := d + 2) hmh48 hN ) rfl rfl ?_
                    intro h57 fh57
                    have hmh57 : mM h57 (sUp (sUp (sUp s 7 3) 8 3) 9 (gDig G t)) A := fh57.1
                    have frh57 : mFr h h57 := mFr_t frh48 fh57.2
                    refine eW_ret_i rfl rfl (Or.inl rfl) ?_
                    have ho : oScp G p t l = (3, 3, gDig G t, G) := by
                      exact oScp_3 (by omega) (by omega) (by omega) (gLets_f (by omega))
                    refine ⟨_, _, _, _, rfl, hmh57, frh57, ?_⟩
                    unfold mOp
                    rw [ho]
                    refine ⟨rfl, ?_, (fun _ => ⟨rfl, rfl⟩), (fun e => absurd rfl e), (fun e => absurd (show (3 : Int) = 0 from e) (by decide)), (fun _ => ⟨rfl, rfl, rfl⟩), rfl, rfl, rfl, rfl, rfl, rfl, rfl, rfl, rfl, rfl, rfl⟩
                    exact hr
                · refine eW_iconst 94 rfl rfl ?_
                  refine eW_goto rfl ?_
                  refine eW_istore 100 rfl rfl [(5, vI 2), (4, vI (G.1 p.toNat)), (0, .ref 63), (1, vI p), (2, vI t), (3, vI l)] rfl rfl ?_
                  refine eW_aload_n 101 rfl rfl rfl ?_
                  refine eW_getfield 104 rfl rfl (Nat.ble_eq_true_of_le (by omega)) rfl (show h48 63 = .inr (11, [.ref 64, .ref 65, .ref 66, .ref 67, vI (s 4), vI (s 5), vI (s 6), vI 0, vI (s 8), vI (s 9), .ref 68, vI (s 11), vI (s 12), .ref 69, vI (s 14), .ref 70, .ref 71, vI (s 17), vI (s 18), vI (s 19), vI (s 20), .ref 72, vI (s 22)]) from hmh48.1) rfl ⟨rfl, fun _ h9 => nomatch h9⟩ ?_
                  refine eW_bipush 106 rfl rfl 7 rfl ?_
                  refine eW_iload_n 107 rfl rfl rfl ?_
                  refine eW_iadd 108 rfl rfl ?_
                  refine eW_iaload 109 rfl rfl (gDig G t) (Nat.ble_eq_true_of_le (by omega)) (show h48 64 = .inl (0, 62, .inl (eIA (A 0))) from hmh48.2.1) (by omega) (by omega) (by unfold i32; omega) (rR_d hr (by omega) (by omega)) ?_
                  refine eW_iload 111 rfl rfl rfl ?_
                  refine eW_iand 112 rfl rfl ((gDig G t) / 2 % 2 * 2) (eAnd2 hd.1 hd.2) ?_
                  refine eW_if_ne 115 rfl rfl (by unfold i32; omega) (fun c58 => ?_) (fun c58 => ?_)
                  · have hl9 : gLets (gDig G) (G.1 p.toNat) t l = true := gLets_t (by omega)
                    have hM9 : gMay G (p, t, l) := ⟨⟨by show 0 ≤ p; omega, by show p < _; omega⟩, ⟨by show 1 ≤ t; omega, by show t ≤ 6; omega⟩, hl9⟩
                    refine eW_aload_n 132 rfl rfl rfl ?_
                    refine eW_aload_n 133 rfl rfl rfl ?_
                    refine eW_getfield 136 rfl rfl (Nat.ble_eq_true_of_le (by omega)) rfl (show h48 63 = .inr (11, [.ref 64, .ref 65, .ref 66, .ref 67, vI (s 4), vI (s 5), vI (s 6), vI 0, vI (s 8), vI (s 9), .ref 68, vI (s 11), vI (s 12), .ref 69, vI (s 14), .ref 70, .ref 71, vI (s 17), vI (s 18), vI (s 19), vI (s 20), .ref 72, vI (s 22)]) from hmh48.1) rfl ⟨rfl, fun _ h9 => nomatch h9⟩ ?_
                    refine eW_callVH 139 [.ref 63, .ref 64] [] [] rfl rfl rfl rfl (Nat.ble_eq_true_of_le (by omega)) (show h48 63 = .inr (11, [.ref 64, .ref 65, .ref 66, .ref 67, vI (s 4), vI (s 5), vI (s 6), vI 0, vI (s 8), vI (s 9), .ref 68, vI (s 11), vI (s 12), .ref 69, vI (s 14), .ref 70, .ref 71, vI (s 17), vI (s 18), vI (s 19), vI (s 20), .ref 72, vI (s 22)]) from hmh48.1) rfl rfl rfl (m_keeps (d := d + 1) hmh48 hN hw6 hw5) rfl rfl ?_
                    intro h59 fh59
                    obtain ⟨s5, K5, f9h59⟩ := fh59
                    obtain ⟨f8h59, hk⟩ := f9h59
                    have hmh59 : mM h59 (sUp (sUp s 5 s5) 7 0) (mUp A 1 K5) := f8h59.1
                    have frh59 : mFr h h59 := mFr_t frh48 f8h59.2
                    refine eW_aload_n 140 rfl rfl rfl ?_
                    refine eW_iload_n 141 rfl rfl rfl ?_
                    refine eW_iload_n 142 rfl rfl rfl ?_
                    refine eW_iload_n 143 rfl rfl rfl ?_
                    refine eW_callVH 146 [.ref 63, vI p, vI t, vI l] [] [] rfl rfl rfl rfl (Nat.ble_eq_true_of_le (by omega)) (show h59 63 = .inr (11, [.ref 64, .ref 65, .ref 66, .ref 67, vI (s 4), vI s5, vI (s 6), vI 0, vI (s 8), vI (s 9), .ref 68, vI (s 11), vI (s 12), .ref 69, vI (s 14), .ref 70, .ref 71, vI (s 17), vI (s 18), vI (s 19), vI (s 20), .ref 72, vI (s 22)]) from hmh59.1) rfl rfl rfl (m_takes (d := d + 1) hmh59 hN hr hI hM9) rfl rfl ?_
                    intro h60 fh60
                    obtain ⟨g9, f9h60⟩ := fh60
                    obtain ⟨f8h60, hr9⟩ := f9h60
                    have hmh60 : mM h60 (sUp (sUp s 5 s5) 7 0) (mUp (mUp A 0 g9) 1 K5) := f8h60.1
                    have frh60 : mFr h h60 := mFr_t frh59 f8h60.2
                    refine eW_aload_n 147 rfl rfl rfl ?_
                    refine eW_getfield 150 rfl rfl (Nat.ble_eq_true_of_le (by omega)) rfl (show h60 63 = .inr (11, [.ref 64, .ref 65, .ref 66, .ref 67, vI (s 4), vI s5, vI (s 6), vI 0, vI (s 8), vI (s 9), .ref 68, vI (s 11), vI (s 12), .ref 69, vI (s 14), .ref 70, .ref 71, vI (s 17), vI (s 18), vI (s 19), vI (s 20), .ref 72, vI (s 22)]) from hmh60.1) rfl ⟨rfl, fun _ h9 => nomatch h9⟩ ?_
                    refine eW_iconst 151 rfl rfl ?_
                    refine eW_iaload 152 rfl rfl ((gMake G (p, t, l)).2.2.2.1) (Nat.ble_eq_true_of_le (by omega)) (show h60 64 = .inl (0, 62, .inl (eIA g9)) from hmh60.2.1) (by omega) (by omega) (by unfold i32; omega) (congrArg Int32.ofInt hr9.1) ?_
                    refine eW_ret_i rfl rfl (Or.inl rfl) ?_
                    have ho : oScp G p t l = (0, 0, 0, gMake G (p, t, l)) := by
                      exact oScp_f (by omega) (by omega) (by omega) (gLets_t (by omega))
                    refine ⟨_, _, _, _, rfl, hmh60, frh60, ?_⟩
                    unfold mOp
                    rw [ho]
                    refine ⟨rfl, ?_, (fun e => absurd (show (0 : Int) = 3 from e) (by decide)), (fun _ => ⟨rfl, rfl⟩), (fun _ => ⟨hk, rfl⟩), (fun e => absurd rfl e), rfl, rfl, rfl, rfl, rfl, rfl, rfl, rfl, rfl, rfl, rfl⟩
                    exact hr9
                  · refine eW_aload_n 116 rfl rfl rfl ?_
                    refine eW_iconst 117 rfl rfl ?_
                    refine eW_iconst 118 rfl rfl ?_
                    refine eW_aload_n 119 rfl rfl rfl ?_
                    refine eW_getfield 122 rfl rfl (Nat.ble_eq_true_of_le (by omega)) rfl (show h48 63 = .inr (11, [.ref 64, .ref 65, .ref 66, .ref 67, vI (s 4), vI (s 5), vI (s 6), vI 0, vI (s 8), vI (s 9), .ref 68, vI (s 11), vI (s 12), .ref 69, vI (s 14), .ref 70, .ref 71, vI (s 17), vI (s 18), vI (s 19), vI (s 20), .ref 72, vI (s 22)]) from hmh48.1) rfl ⟨rfl, fun _ h9 => nomatch h9⟩ ?_
                    refine eW_bipush 124 rfl rfl 7 rfl ?_
                    refine eW_iload_n 125 rfl rfl rfl ?_
                    refine eW_iadd 126 rfl rfl ?_
                    refine eW_iaload 127 rfl rfl (gDig G t) (Nat.ble_eq_true_of_le (by omega)) (show h48 64 = .inl (0, 62, .inl (eIA (A 0))) from hmh48.2.1) (by omega) (by omega) (by unfold i32; omega) (rR_d hr (by omega) (by omega)) ?_
                    refine eW_callVH 130 [.ref 63, vI 3, vI 3, vI (gDig G t)] [] [vI 0] rfl rfl rfl rfl (Nat.ble_eq_true_of_le (by omega)) (show h48 63 = .inr (11, [.ref 64, .ref 65, .ref 66, .ref 67, vI (s 4), vI (s 5), vI (s 6), vI 0, vI (s 8), vI (s 9), .ref 68, vI (s 11), vI (s 12), .ref 69, vI (s 14), .ref 70, .ref 71, vI (s 17), vI (s 18), vI (s 19), vI (s 20), .ref 72, vI (s 22)]) from hmh48.1) rfl rfl rfl (m_refuses (d := d + 2) hmh48 hN ) rfl rfl ?_
                    intro h61 fh61
                    have hmh61 : mM h61 (sUp (sUp (sUp s 7 3) 8 3) 9 (gDig G t)) A := fh61.1
                    have frh61 : mFr h h61 := mFr_t frh48 fh61.2
                    refine eW_ret_i rfl rfl (Or.inl rfl) ?_
                    have ho : oScp G p t l = (3, 3, gDig G t, G) := by
                      exact oScp_3 (by omega) (by omega) (by omega) (gLets_f (by omega))
                    refine ⟨_, _, _, _, rfl, hmh61, frh61, ?_⟩
                    unfold mOp
                    rw [ho]
                    refine ⟨rfl, ?_, (fun _ => ⟨rfl, rfl⟩), (fun e => absurd rfl e), (fun e => absurd (show (3 : Int) = 0 from e) (by decide)), (fun _ => ⟨rfl, rfl, rfl⟩), rfl, rfl, rfl, rfl, rfl, rfl, rfl, rfl, rfl, rfl, rfl⟩
                    exact hr
              · refine eW_iconst 82 rfl rfl ?_
                refine eW_goto rfl ?_
                refine eW_istore 100 rfl rfl [(5, vI 1), (4, vI (G.1 p.toNat)), (0, .ref 63), (1, vI p), (2, vI t), (3, vI l)] rfl rfl ?_
                refine eW_aload_n 101 rfl rfl rfl ?_
                refine eW_getfield 104 rfl rfl (Nat.ble_eq_true_of_le (by omega)) rfl (show h48 63 = .inr (11, [.ref 64, .ref 65, .ref 66, .ref 67, vI (s 4), vI (s 5), vI (s 6), vI 0, vI (s 8), vI (s 9), .ref 68, vI (s 11), vI (s 12), .ref 69, vI (s 14), .ref 70, .ref 71, vI (s 17), vI (s 18), vI (s 19), vI (s 20), .ref 72, vI (s 22)]) from hmh48.1) rfl ⟨rfl, fun _ h9 => nomatch h9⟩ ?_
                refine eW_bipush 106 rfl rfl 7 rfl ?_
                refine eW_iload_n 107 rfl rfl rfl ?_
                refine eW_iadd 108 rfl rfl ?_
                refine eW_iaload 109 rfl rfl (gDig G t) (Nat.ble_eq_true_of_le (by omega)) (show h48 64 = .inl (0, 62, .inl (eIA (A 0))) from hmh48.2.1) (by omega) (by omega) (by unfold i32; omega) (rR_d hr (by omega) (by omega)) ?_
                refine eW_iload 111 rfl rfl rfl ?_
                refine eW_iand 112 rfl rfl ((gDig G t) % 2) (eAnd1 hd.1 hd.2) ?_
                refine eW_if_ne 115 rfl rfl (by unfold i32; omega) (fun c62 => ?_) (fun c62 => ?_)
                · have hl9 : gLets (gDig G) (G.1 p.toNat) t l = true := gLets_t (by omega)
                  have hM9 : gMay G (p, t, l) := ⟨⟨by show 0 ≤ p; omega, by show p < _; omega⟩, ⟨by show 1 ≤ t; omega, by show t ≤ 6; omega⟩, hl9⟩
                  refine eW_aload_n 132 rfl rfl rfl ?_
                  refine eW_aload_n 133 rfl rfl rfl ?_
                  refine eW_getfield 136 rfl rfl (Nat.ble_eq_true_of_le (by omega)) rfl (show h48 63 = .inr (11, [.ref 64, .ref 65, .ref 66, .ref 67, vI (s 4), vI (s 5), vI (s 6), vI 0, vI (s 8), vI (s 9), .ref 68, vI (s 11), vI (s 12), .ref 69, vI (s 14), .ref 70, .ref 71, vI (s 17), vI (s 18), vI (s 19), vI (s 20), .ref 72, vI (s 22)]) from hmh48.1) rfl ⟨rfl, fun _ h9 => nomatch h9⟩ ?_
                  refine eW_callVH 139 [.ref 63, .ref 64] [] [] rfl rfl rfl rfl (Nat.ble_eq_true_of_le (by omega)) (show h48 63 = .inr (11, [.ref 64, .ref 65, .ref 66, .ref 67, vI (s 4), vI (s 5), vI (s 6), vI 0, vI (s 8), vI (s 9), .ref 68, vI (s 11), vI (s 12), .ref 69, vI (s 14), .ref 70, .ref 71, vI (s 17), vI (s 18), vI (s 19), vI (s 20), .ref 72, vI (s 22)]) from hmh48.1) rfl rfl rfl (m_keeps (d := d + 1) hmh48 hN hw6 hw5) rfl rfl ?_
                  intro h63 fh63
                  obtain ⟨s5, K5, f9h63⟩ := fh63
                  obtain ⟨f8h63, hk⟩ := f9h63
                  have hmh63 : mM h63 (sUp (sUp s 5 s5) 7 0) (mUp A 1 K5) := f8h63.1
                  have frh63 : mFr h h63 := mFr_t frh48 f8h63.2
                  refine eW_aload_n 140 rfl rfl rfl ?_
                  refine eW_iload_n 141 rfl rfl rfl ?_
                  refine eW_iload_n 142 rfl rfl rfl ?_
                  refine eW_iload_n 143 rfl rfl rfl ?_
                  refine eW_callVH 146 [.ref 63, vI p, vI t, vI l] [] [] rfl rfl rfl rfl (Nat.ble_eq_true_of_le (by omega)) (show h63 63 = .inr (11, [.ref 64, .ref 65, .ref 66, .ref 67, vI (s 4), vI s5, vI (s 6), vI 0, vI (s 8), vI (s 9), .ref 68, vI (s 11), vI (s 12), .ref 69, vI (s 14), .ref 70, .ref 71, vI (s 17), vI (s 18), vI (s 19), vI (s 20), .ref 72, vI (s 22)]) from hmh63.1) rfl rfl rfl (m_takes (d := d + 1) hmh63 hN hr hI hM9) rfl rfl ?_
                  intro h64 fh64
                  obtain ⟨g9, f9h64⟩ := fh64
                  obtain ⟨f8h64, hr9⟩ := f9h64
                  have hmh64 : mM h64 (sUp (sUp s 5 s5) 7 0) (mUp (mUp A 0 g9) 1 K5) := f8h64.1
                  have frh64 : mFr h h64 := mFr_t frh63 f8h64.2
                  refine eW_aload_n 147 rfl rfl rfl ?_
                  refine eW_getfield 150 rfl rfl (Nat.ble_eq_true_of_le (by omega)) rfl (show h64 63 = .inr (11, [.ref 64, .ref 65, .ref 66, .ref 67, vI (s 4), vI s5, vI (s 6), vI 0, vI (s 8), vI (s 9), .ref 68, vI (s 11), vI (s 12), .ref 69, vI (s 14), .ref 70, .ref 71, vI (s 17), vI (s 18), vI (s 19), vI (s 20), .ref 72, vI (s 22)]) from hmh64.1) rfl ⟨rfl, fun _ h9 => nomatch h9⟩ ?_
                  refine eW_iconst 151 rfl rfl ?_
                  refine eW_iaload 152 rfl rfl ((gMake G (p, t, l)).2.2.2.1) (Nat.ble_eq_true_of_le (by omega)) (show h64 64 = .inl (0, 62, .inl (eIA g9)) from hmh64.2.1) (by omega) (by omega) (by unfold i32; omega) (congrArg Int32.ofInt hr9.1) ?_
                  refine eW_ret_i rfl rfl (Or.inl rfl) ?_
                  have ho : oScp G p t l = (0, 0, 0, gMake G (p, t, l)) := by
                    exact oScp_f (by omega) (by omega) (by omega) (gLets_t (by omega))
                  refine ⟨_, _, _, _, rfl, hmh64, frh64, ?_⟩
                  unfold mOp
                  rw [ho]
                  refine ⟨rfl, ?_, (fun e => absurd (show (0 : Int) = 3 from e) (by decide)), (fun _ => ⟨rfl, rfl⟩), (fun _ => ⟨hk, rfl⟩), (fun e => absurd rfl e), rfl, rfl, rfl, rfl, rfl, rfl, rfl, rfl, rfl, rfl, rfl⟩
                  exact hr9
                · refine eW_aload_n 116 rfl rfl rfl ?_
                  refine eW_iconst 117 rfl rfl ?_
                  refine eW_iconst 118 rfl rfl ?_
                  refine eW_aload_n 119 rfl rfl rfl ?_
                  refine eW_getfield 122 rfl rfl (Nat.ble_eq_true_of_le (by omega)) rfl (show h48 63 = .inr (11, [.ref 64, .ref 65, .ref 66, .ref 67, vI (s 4), vI (s 5), vI (s 6), vI 0, vI (s 8), vI (s 9), .ref 68, vI (s 11), vI (s 12), .ref 69, vI (s 14), .ref 70, .ref 71, vI (s 17), vI (s 18), vI (s 19), vI (s 20), .ref 72, vI (s 22)]) from hmh48.1) rfl ⟨rfl, fun _ h9 => nomatch h9⟩ ?_
                  refine eW_bipush 124 rfl rfl 7 rfl ?_
                  refine eW_iload_n 125 rfl rfl rfl ?_
                  refine eW_iadd 126 rfl rfl ?_
                  refine eW_iaload 127 rfl rfl (gDig G t) (Nat.ble_eq_true_of_le (by omega)) (show h48 64 = .inl (0, 62, .inl (eIA (A 0))) from hmh48.2.1) (by omega) (by omega) (by unfold i32; omega) (rR_d hr (by omega) (by omega)) ?_
                  refine eW_callVH 130 [.ref 63, vI 3, vI 3, vI (gDig G t)] [] [vI 0] rfl rfl rfl rfl (Nat.ble_eq_true_of_le (by omega)) (show h48 63 = .inr (11, [.ref 64, .ref 65, .ref 66, .ref 67, vI (s 4), vI (s 5), vI (s 6), vI 0, vI (s 8), vI (s 9), .ref 68, vI (s 11), vI (s 12), .ref 69, vI (s 14), .ref 70, .ref 71, vI (s 17), vI (s 18), vI (s 19), vI (s 20), .ref 72, vI (s 22)]) from hmh48.1) rfl rfl rfl (m_refuses (d := d + 2) hmh48 hN ) rfl rfl ?_
                  intro h65 fh65
                  have hmh65 : mM h65 (sUp (sUp (sUp s 7 3) 8 3) 9 (gDig G t)) A := fh65.1
                  have frh65 : mFr h h65 := mFr_t frh48 fh65.2
                  refine eW_ret_i rfl rfl (Or.inl rfl) ?_
                  have ho : oScp G p t l = (3, 3, gDig G t, G) := by
                    exact oScp_3 (by omega) (by omega) (by omega) (gLets_f (by omega))
                  refine ⟨_, _, _, _, rfl, hmh65, frh65, ?_⟩
                  unfold mOp
                  rw [ho]
                  refine ⟨rfl, ?_, (fun _ => ⟨rfl, rfl⟩), (fun e => absurd rfl e), (fun e => absurd (show (3 : Int) = 0 from e) (by decide)), (fun _ => ⟨rfl, rfl, rfl⟩), rfl, rfl, rfl, rfl, rfl, rfl, rfl, rfl, rfl, rfl, rfl⟩
                  exact hr
            · refine eW_aload_n 69 rfl rfl rfl ?_
              refine eW_iconst 70 rfl rfl ?_
              refine eW_iconst 71 rfl rfl ?_
              refine eW_iload 73 rfl rfl rfl ?_
              refine eW_callVH 76 [.ref 63, vI 3, vI 2, vI (G.1 p.toNat)] [] [vI 0] rfl rfl rfl rfl (Nat.ble_eq_true_of_le (by omega)) (show h48 63 = .inr (11, [.ref 64, .ref 65, .ref 66, .ref 67, vI (s 4), vI (s 5), vI (s 6), vI 0, vI (s 8), vI (s 9), .ref 68, vI (s 11), vI (s 12), .ref 69, vI (s 14), .ref 70, .ref 71, vI (s 17), vI (s 18), vI (s 19), vI (s 20), .ref 72, vI (s 22)]) from hmh48.1) rfl rfl rfl (m_refuses (d := d + 2) hmh48 hN ) rfl rfl ?_
              intro h66 fh66
              have hmh66 : mM h66 (sUp (sUp (sUp s 7 3) 8 2) 9 (G.1 p.toNat)) A := fh66.1
              have frh66 : mFr h h66 := mFr_t frh48 fh66.2
              refine eW_ret_i rfl rfl (Or.inl rfl) ?_
              have ho : oScp G p t l = (3, 2, G.1 p.toNat, G) := by
                exact oScp_2 (by omega) (by omega) (by omega)
              refine ⟨_, _, _, _, rfl, hmh66, frh66, ?_⟩
              unfold mOp
              rw [ho]
              refine ⟨rfl, ?_, (fun _ => ⟨rfl, rfl⟩), (fun e => absurd rfl e), (fun e => absurd (show (3 : Int) = 0 from e) (by decide)), (fun _ => ⟨rfl, rfl, rfl⟩), rfl, rfl, rfl, rfl, rfl, rfl, rfl, rfl, rfl, rfl, rfl⟩
              exact hr
          · refine eW_iconst 52 rfl rfl ?_
            refine eW_ret_i rfl rfl (Or.inl rfl) ?_
            exfalso; omega
        · refine eW_aload_n 32 rfl rfl rfl ?_
          refine eW_iload_n 33 rfl rfl rfl ?_
          have hmbq67 := g3 p.toNat (by omega)
          refine eW_callV 36 [.ref 63, vI p] [.ref 63] [vI (G.1 p.toNat), .ref 63] rfl rfl rfl rfl (Nat.ble_eq_true_of_le (by omega)) hm.1 rfl rfl rfl (m_marbles (d := d + 2) hm hN hr hG (by omega)) rfl rfl ?_
          refine eW_iload_n 37 rfl rfl rfl ?_
          refine eW_icmp_le 40 rfl rfl (by unfold i32; omega) (by unfold i32; omega) (fun c68 => ?_) (fun c68 => ?_)
          · refine eW_iconst 45 rfl rfl ?_
            have hflq69 := eD_c ((0 : Int) < 0)
            refine eW_callVH 48 [.ref 63, vI 0] [] [vI (eB01 (decide ((0 : Int) < 0)))] rfl rfl rfl rfl (Nat.ble_eq_true_of_le (by omega)) hm.1 rfl rfl rfl (m_fails (d := d + 2) hm hN (by unfold i32; omega)) rfl rfl ?_
            intro h70 fh70
            have hmh70 : mM h70 (sUp s 7 0) A := fh70.1
            have frh70 : mFr h h70 := mFr_t (fun _ _ => rfl) fh70.2
            refine eW_if_eq 51 rfl rfl (by unfold i32; omega) (fun c71 => ?_) (fun c71 => ?_)
            · refine eW_aload_n 54 rfl rfl rfl ?_
              refine eW_iload_n 55 rfl rfl rfl ?_
              have hmbq72 := g3 p.toNat (by omega)
              refine eW_callV 58 [.ref 63, vI p] [] [vI (G.1 p.toNat)] rfl rfl rfl rfl (Nat.ble_eq_true_of_le (by omega)) (show h70 63 = .inr (11, [.ref 64, .ref 65, .ref 66, .ref 67, vI (s 4), vI (s 5), vI (s 6), vI 0, vI (s 8), vI (s 9), .ref 68, vI (s 11), vI (s 12), .ref 69, vI (s 14), .ref 70, .ref 71, vI (s 17), vI (s 18), vI (s 19), vI (s 20), .ref 72, vI (s 22)]) from hmh70.1) rfl rfl rfl (m_marbles (d := d + 2) hmh70 hN hr hG (by omega)) rfl rfl ?_
              refine eW_istore 60 rfl rfl [(4, vI (G.1 p.toNat)), (0, .ref 63), (1, vI p), (2, vI t), (3, vI l)] rfl rfl ?_
              refine eW_iload_n 61 rfl rfl rfl ?_
              refine eW_iload 63 rfl rfl rfl ?_
              refine eW_iload_n 64 rfl rfl rfl ?_
              refine eW_isub 65 rfl rfl ?_
              refine eW_icmp_le 68 rfl rfl (by unfold i32; omega) (by unfold i32; omega) (fun c73 => ?_) (fun c73 => ?_)
              · refine eW_iload_n 78 rfl rfl rfl ?_
                refine eW_if_ne 81 rfl rfl (by unfold i32; omega) (fun c74 => ?_) (fun c74 => ?_)
                · refine eW_iload_n 86 rfl rfl rfl ?_
                  refine eW_iload 88 rfl rfl rfl ?_
                  refine eW_iload_n 89 rfl rfl rfl ?_
                  refine eW_isub 90 rfl rfl ?_
                  refine eW_icmp_ne 93 rfl rfl (by unfold i32; omega) (by unfold i32; omega) (fun c75 => ?_) (fun c75 => ?_)
                  · refine eW_iconst 98 rfl rfl ?_
                    refine eW_istore 100 rfl rfl [(5, vI 4), (4, vI (G.1 p.toNat)), (0, .ref 63), (1, vI p), (2, vI t), (3, vI l)] rfl rfl ?_
                    refine eW_aload_n 101 rfl rfl rfl ?_
                    refine eW_getfield 104 rfl rfl (Nat.ble_eq_true_of_le (by omega)) rfl (show h70 63 = .inr (11, [.ref 64, .ref 65, .ref 66, .ref 67, vI (s 4), vI (s 5), vI (s 6), vI 0, vI (s 8), vI (s 9), .ref 68, vI (s 11), vI (s 12), .ref 69, vI (s 14), .ref 70, .ref 71, vI (s 17), vI (s 18), vI (s 19), vI (s 20), .ref 72, vI (s 22)]) from hmh70.1) rfl ⟨rfl, fun _ h9 => nomatch h9⟩ ?_
                    refine eW_bipush 106 rfl rfl 7 rfl ?_
                    refine eW_iload_n 107 rfl rfl rfl ?_
                    refine eW_iadd 108 rfl rfl ?_
                    refine eW_iaload 109 rfl rfl (gDig G t) (Nat.ble_eq_true_of_le (by omega)) (show h70 64 = .inl (0, 62, .inl (eIA (A 0))) from hmh70.2.1) (by omega) (by omega) (by unfold i32; omega) (rR_d hr (by omega) (by omega)) ?_
                    refine eW_iload 111 rfl rfl rfl ?_
                    refine eW_iand 112 rfl rfl ((gDig G t) / 4 % 2 * 4) (eAnd4 hd.1 hd.2) ?_
                    refine eW_if_ne 115 rfl rfl (by unfold i32; omega) (fun c76 => ?_) (fun c76 => ?_)
                    · have hl9 : gLets (gDig G) (G.1 p.toNat) t l = true := gLets_t (by omega)
                      have hM9 : gMay G (p, t, l) := ⟨⟨by show 0 ≤ p; omega, by show p < _; omega⟩, ⟨by show 1 ≤ t; omega, by show t ≤ 6; omega⟩, hl9⟩
                      refine eW_aload_n 132 rfl rfl rfl ?_
                      refine eW_aload_n 133 rfl rfl rfl ?_
                      refine eW_getfield 136 rfl rfl (Nat.ble_eq_true_of_le (by omega)) rfl (show h70 63 = .inr (11, [.ref 64, .ref 65, .ref 66, .ref 67, vI (s 4), vI (s 5), vI (s 6), vI 0, vI (s 8), vI (s 9), .ref 68, vI (s 11), vI (s 12), .ref 69, vI (s 14), .ref 70, .ref 71, vI (s 17), vI (s 18), vI (s 19), vI (s 20), .ref 72, vI (s 22)]) from hmh70.1) rfl ⟨rfl, fun _ h9 => nomatch h9⟩ ?_
                      refine eW_callVH 139 [.ref 63, .ref 64] [] [] rfl rfl rfl rfl (Nat.ble_eq_true_of_le (by omega)) (show h70 63 = .inr (11, [.ref 64, .ref 65, .ref 66, .ref 67, vI (s 4), vI (s 5), vI (s 6), vI 0, vI (s 8), vI (s 9), .ref 68, vI (s 11), vI (s 12), .ref 69, vI (s 14), .ref 70, .ref 71, vI (s 17), vI (s 18), vI (s 19), vI (s 20), .ref 72, vI (s 22)]) from hmh70.1) rfl rfl rfl (m_keeps (d := d + 1) hmh70 hN hw6 hw5) rfl rfl ?_
                      intro h77 fh77
                      obtain ⟨s5, K5, f9h77⟩ := fh77
                      obtain ⟨f8h77, hk⟩ := f9h77
                      have hmh77 : mM h77 (sUp (sUp s 5 s5) 7 0) (mUp A 1 K5) := f8h77.1
                      have frh77 : mFr h h77 := mFr_t frh70 f8h77.2
                      refine eW_aload_n 140 rfl rfl rfl ?_
                      refine eW_iload_n 141 rfl rfl rfl ?_
                      refine eW_iload_n 142 rfl rfl rfl ?_
                      refine eW_iload_n 143 rfl rfl rfl ?_
                      refine eW_callVH 146 [.ref 63, vI p, vI t, vI l] [] [] rfl rfl rfl rfl (Nat.ble_eq_true_of_le (by omega)) (show h77 63 = .inr (11, [.ref 64, .ref 65, .ref 66, .ref 67, vI (s 4), vI s5, vI (s 6), vI 0, vI (s 8), vI (s 9), .ref 68, vI (s 11), vI (s 12), .ref 69, vI (s 14), .ref 70, .ref 71, vI (s 17), vI (s 18), vI (s 19), vI (s 20), .ref 72, vI (s 22)]) from hmh77.1) rfl rfl rfl (m_takes (d := d + 1) hmh77 hN hr hI hM9) rfl rfl ?_
                      intro h78 fh78
                      obtain ⟨g9, f9h78⟩ := fh78
                      obtain ⟨f8h78, hr9⟩ := f9h78
                      have hmh78 : mM h78 (sUp (sUp s 5 s5) 7 0) (mUp (mUp A 0 g9) 1 K5) := f8h78.1
                      have frh78 : mFr h h78 := mFr_t frh77 f8h78.2
                      refine eW_aload_n 147 rfl rfl rfl ?_
                      refine eW_getfield 150 rfl rfl (Nat.ble_eq_true_of_le (by omega)) rfl (show h78 63 = .inr (11, [.ref 64, .ref 65, .ref 66, .ref 67, vI (s 4), vI s5, vI (s 6), vI 0, vI (s 8), vI (s 9), .ref 68, vI (s 11), vI (s 12), .ref 69, vI (s 14), .ref 70, .ref 71, vI (s 17), vI (s 18), vI (s 19), vI (s 20), .ref 72, vI (s 22)]) from hmh78.1) rfl ⟨rfl, fun _ h9 => nomatch h9⟩ ?_
                      refine eW_iconst 151 rfl rfl ?_
                      refine eW_iaload 152 rfl rfl ((gMake G (p, t, l)).2.2.2.1) (Nat.ble_eq_true_of_le (by omega)) (show h78 64 = .inl (0, 62, .inl (eIA g9)) from hmh78.2.1) (by omega) (by omega) (by unfold i32; omega) (congrArg Int32.ofInt hr9.1) ?_
                      refine eW_ret_i rfl rfl (Or.inl rfl) ?_
                      have ho : oScp G p t l = (0, 0, 0, gMake G (p, t, l)) := by
                        exact oScp_f (by omega) (by omega) (by omega) (gLets_t (by omega))
                      refine ⟨_, _, _, _, rfl, hmh78, frh78, ?_⟩
                      unfold mOp
                      rw [ho]
                      refine ⟨rfl, ?_, (fun e => absurd (show (0 : Int) = 3 from e) (by decide)), (fun _ => ⟨rfl, rfl⟩), (fun _ => ⟨hk, rfl⟩), (fun e => absurd rfl e), rfl, rfl, rfl, rfl, rfl, rfl, rfl, rfl, rfl, rfl, rfl⟩
                      exact hr9
                    · refine eW_aload_n 116 rfl rfl rfl ?_
                      refine eW_iconst 117 rfl rfl ?_
                      refine eW_iconst 118 rfl rfl ?_
                      refine eW_aload_n 119 rfl rfl rfl ?_
                      refine eW_getfield 122 rfl rfl (Nat.ble_eq_true_of_le (by omega)) rfl (show h70 63 = .inr (11, [.ref 64, .ref 65, .ref 66, .ref 67, vI (s 4), vI (s 5), vI (s 6), vI 0, vI (s 8), vI (s 9), .ref 68, vI (s 11), vI (s 12), .ref 69, vI (s 14), .ref 70, .ref 71, vI (s 17), vI (s 18), vI (s 19), vI (s 20), .ref 72, vI (s 22)]) from hmh70.1) rfl ⟨rfl, fun _ h9 => nomatch h9⟩ ?_
                      refine eW_bipush 124 rfl rfl 7 rfl ?_
                      refine eW_iload_n 125 rfl rfl rfl ?_
                      refine eW_iadd 126 rfl rfl ?_
                      refine eW_iaload 127 rfl rfl (gDig G t) (Nat.ble_eq_true_of_le (by omega)) (show h70 64 = .inl (0, 62, .inl (eIA (A 0))) from hmh70.2.1) (by omega) (by omega) (by unfold i32; omega) (rR_d hr (by omega) (by omega)) ?_
                      refine eW_callVH 130 [.ref 63, vI 3, vI 3, vI (gDig G t)] [] [vI 0] rfl rfl rfl rfl (Nat.ble_eq_true_of_le (by omega)) (show h70 63 = .inr (11, [.ref 64, .ref 65, .ref 66, .ref 67, vI (s 4), vI (s 5), vI (s 6), vI 0, vI (s 8), vI (s 9), .ref 68, vI (s 11), vI (s 12), .ref 69, vI (s 14), .ref 70, .ref 71, vI (s 17), vI (s 18), vI (s 19), vI (s 20), .ref 72, vI (s 22)]) from hmh70.1) rfl rfl rfl (m_refuses (d := d + 2) hmh70 hN ) rfl rfl ?_
                      intro h79 fh79
                      have hmh79 : mM h79 (sUp (sUp (sUp s 7 3) 8 3) 9 (gDig G t)) A := fh79.1
                      have frh79 : mFr h h79 := mFr_t frh70 fh79.2
                      refine eW_ret_i rfl rfl (Or.inl rfl) ?_
                      have ho : oScp G p t l = (3, 3, gDig G t, G) := by
                        exact oScp_3 (by omega) (by omega) (by omega) (gLets_f (by omega))
                      refine ⟨_, _, _, _, rfl, hmh79, frh79, ?_⟩
                      unfold mOp
                      rw [ho]
                      refine ⟨rfl, ?_, (fun _ => ⟨rfl, rfl⟩), (fun e => absurd rfl e), (fun e => absurd (show (3 : Int) = 0 from e) (by decide)), (fun _ => ⟨rfl, rfl, rfl⟩), rfl, rfl, rfl, rfl, rfl, rfl, rfl, rfl, rfl, rfl, rfl⟩
                      exact hr
                  · refine eW_iconst 94 rfl rfl ?_
                    refine eW_goto rfl ?_
                    refine eW_istore 100 rfl rfl [(5, vI 2), (4, vI (G.1 p.toNat)), (0, .ref 63), (1, vI p), (2, vI t), (3, vI l)] rfl rfl ?_
                    refine eW_aload_n 101 rfl rfl rfl ?_
                    refine eW_getfield 104 rfl rfl (Nat.ble_eq_true_of_le (by omega)) rfl (show h70 63 = .inr (11, [.ref 64, .ref 65, .ref 66, .ref 67, vI (s 4), vI (s 5), vI (s 6), vI 0, vI (s 8), vI (s 9), .ref 68, vI (s 11), vI (s 12), .ref 69, vI (s 14), .ref 70, .ref 71, vI (s 17), vI (s 18), vI (s 19), vI (s 20), .ref 72, vI (s 22)]) from hmh70.1) rfl ⟨rfl, fun _ h9 => nomatch h9⟩ ?_
                    refine eW_bipush 106 rfl rfl 7 rfl ?_
                    refine eW_iload_n 107 rfl rfl rfl ?_
                    refine eW_iadd 108 rfl rfl ?_
                    refine eW_iaload 109 rfl rfl (gDig G t) (Nat.ble_eq_true_of_le (by omega)) (show h70 64 = .inl (0, 62, .inl (eIA (A 0))) from hmh70.2.1) (by omega) (by omega) (by unfold i32; omega) (rR_d hr (by omega) (by omega)) ?_
                    refine eW_iload 111 rfl rfl rfl ?_
                    refine eW_iand 112 rfl rfl ((gDig G t) / 2 % 2 * 2) (eAnd2 hd.1 hd.2) ?_
                    refine eW_if_ne 115 rfl rfl (by unfold i32; omega) (fun c80 => ?_) (fun c80 => ?_)
                    · have hl9 : gLets (gDig G) (G.1 p.toNat) t l = true := gLets_t (by omega)
                      have hM9 : gMay G (p, t, l) := ⟨⟨by show 0 ≤ p; omega, by show p < _; omega⟩, ⟨by show 1 ≤ t; omega, by show t ≤ 6; omega⟩, hl9⟩
                      refine eW_aload_n 132 rfl rfl rfl ?_
                      refine eW_aload_n 133 rfl rfl rfl ?_
                      refine eW_getfield 136 rfl rfl (Nat.ble_eq_true_of_le (by omega)) rfl (show h70 63 = .inr (11, [.ref 64, .ref 65, .ref 66, .ref 67, vI (s 4), vI (s 5), vI (s 6), vI 0, vI (s 8), vI (s 9), .ref 68, vI (s 11), vI (s 12), .ref 69, vI (s 14), .ref 70, .ref 71, vI (s 17), vI (s 18), vI (s 19), vI (s 20), .ref 72, vI (s 22)]) from hmh70.1) rfl ⟨rfl, fun _ h9 => nomatch h9⟩ ?_
                      refine eW_callVH 139 [.ref 63, .ref 64] [] [] rfl rfl rfl rfl (Nat.ble_eq_true_of_le (by omega)) (show h70 63 = .inr (11, [.ref 64, .ref 65, .ref 66, .ref 67, vI (s 4), vI (s 5), vI (s 6), vI 0, vI (s 8), vI (s 9), .ref 68, vI (s 11), vI (s 12), .ref 69, vI (s 14), .ref 70, .ref 71, vI (s 17), vI (s 18), vI (s 19), vI (s 20), .ref 72, vI (s 22)]) from hmh70.1) rfl rfl rfl (m_keeps (d := d + 1) hmh70 hN hw6 hw5) rfl rfl ?_
                      intro h81 fh81
                      obtain ⟨s5, K5, f9h81⟩ := fh81
                      obtain ⟨f8h81, hk⟩ := f9h81
                      have hmh81 : mM h81 (sUp (sUp s 5 s5) 7 0) (mUp A 1 K5) := f8h81.1
                      have frh81 : mFr h h81 := mFr_t frh70 f8h81.2
                      refine eW_aload_n 140 rfl rfl rfl ?_
                      refine eW_iload_n 141 rfl rfl rfl ?_
                      refine eW_iload_n 142 rfl rfl rfl ?_
                      refine eW_iload_n 143 rfl rfl rfl ?_
                      refine eW_callVH 146 [.ref 63, vI p, vI t, vI l] [] [] rfl rfl rfl rfl (Nat.ble_eq_true_of_le (by omega)) (show h81 63 = .inr (11, [.ref 64, .ref 65, .ref 66, .ref 67, vI (s 4), vI s5, vI (s 6), vI 0, vI (s 8), vI (s 9), .ref 68, vI (s 11), vI (s 12), .ref 69, vI (s 14), .ref 70, .ref 71, vI (s 17), vI (s 18), vI (s 19), vI (s 20), .ref 72, vI (s 22)]) from hmh81.1) rfl rfl rfl (m_takes (d := d + 1) hmh81 hN hr hI hM9) rfl rfl ?_
                      intro h82 fh82
                      obtain ⟨g9, f9h82⟩ := fh82
                      obtain ⟨f8h82, hr9⟩ := f9h82
                      have hmh82 : mM h82 (sUp (sUp s 5 s5) 7 0) (mUp (mUp A 0 g9) 1 K5) := f8h82.1
                      have frh82 : mFr h h82 := mFr_t frh81 f8h82.2
                      refine eW_aload_n 147 rfl rfl rfl ?_
                      refine eW_getfield 150 rfl rfl (Nat.ble_eq_true_of_le (by omega)) rfl (show h82 63 = .inr (11, [.ref 64, .ref 65, .ref 66, .ref 67, vI (s 4), vI s5, vI (s 6), vI 0, vI (s 8), vI (s 9), .ref 68, vI (s 11), vI (s 12), .ref 69, vI (s 14), .ref 70, .ref 71, vI (s 17), vI (s 18), vI (s 19), vI (s 20), .ref 72, vI (s 22)]) from hmh82.1) rfl ⟨rfl, fun _ h9 => nomatch h9⟩ ?_
                      refine eW_iconst 151 rfl rfl ?_
                      refine eW_iaload 152 rfl rfl ((gMake G (p, t, l)).2.2.2.1) (Nat.ble_eq_true_of_le (by omega)) (show h82 64 = .inl (0, 62, .inl (eIA g9)) from hmh82.2.1) (by omega) (by omega) (by unfold i32; omega) (congrArg Int32.ofInt hr9.1) ?_
                      refine eW_ret_i rfl rfl (Or.inl rfl) ?_
                      have ho : oScp G p t l = (0, 0, 0, gMake G (p, t, l)) := by
                        exact oScp_f (by omega) (by omega) (by omega) (gLets_t (by omega))
                      refine ⟨_, _, _, _, rfl, hmh82, frh82, ?_⟩
                      unfold mOp
                      rw [ho]
                      refine ⟨rfl, ?_, (fun e => absurd (show (0 : Int) = 3 from e) (by decide)), (fun _ => ⟨rfl, rfl⟩), (fun _ => ⟨hk, rfl⟩), (fun e => absurd rfl e), rfl, rfl, rfl, rfl, rfl, rfl, rfl, rfl, rfl, rfl, rfl⟩
                      exact hr9
                    · refine eW_aload_n 116 rfl rfl rfl ?_
                      refine eW_iconst 117 rfl rfl ?_
                      refine eW_iconst 118 rfl rfl ?_
                      refine eW_aload_n 119 rfl rfl rfl ?_
                      refine eW_getfield 122 rfl rfl (Nat.ble_eq_true_of_le (by omega)) rfl (show h70 63 = .inr (11, [.ref 64, .ref 65, .ref 66, .ref 67, vI (s 4), vI (s 5), vI (s 6), vI 0, vI (s 8), vI (s 9), .ref 68, vI (s 11), vI (s 12), .ref 69, vI (s 14), .ref 70, .ref 71, vI (s 17), vI (s 18), vI (s 19), vI (s 20), .ref 72, vI (s 22)]) from hmh70.1) rfl ⟨rfl, fun _ h9 => nomatch h9⟩ ?_
                      refine eW_bipush 124 rfl rfl 7 rfl ?_
                      refine eW_iload_n 125 rfl rfl rfl ?_
                      refine eW_iadd 126 rfl rfl ?_
                      refine eW_iaload 127 rfl rfl (gDig G t) (Nat.ble_eq_true_of_le (by omega)) (show h70 64 = .inl (0, 62, .inl (eIA (A 0))) from hmh70.2.1) (by omega) (by omega) (by unfold i32; omega) (rR_d hr (by omega) (by omega)) ?_
                      refine eW_callVH 130 [.ref 63, vI 3, vI 3, vI (gDig G t)] [] [vI 0] rfl rfl rfl rfl (Nat.ble_eq_true_of_le (by omega)) (show h70 63 = .inr (11, [.ref 64, .ref 65, .ref 66, .ref 67, vI (s 4), vI (s 5), vI (s 6), vI 0, vI (s 8), vI (s 9), .ref 68, vI (s 11), vI (s 12), .ref 69, vI (s 14), .ref 70, .ref 71, vI (s 17), vI (s 18), vI (s 19), vI (s 20), .ref 72, vI (s 22)]) from hmh70.1) rfl rfl rfl (m_refuses (d := d + 2) hmh70 hN ) rfl rfl ?_
                      intro h83 fh83
                      have hmh83 : mM h83 (sUp (sUp (sUp s 7 3) 8 3) 9 (gDig G t)) A := fh83.1
                      have frh83 : mFr h h83 := mFr_t frh70 fh83.2
                      refine eW_ret_i rfl rfl (Or.inl rfl) ?_
                      have ho : oScp G p t l = (3, 3, gDig G t, G) := by
                        exact oScp_3 (by omega) (by omega) (by omega) (gLets_f (by omega))
                      refine ⟨_, _, _, _, rfl, hmh83, frh83, ?_⟩
                      unfold mOp
                      rw [ho]
                      refine ⟨rfl, ?_, (fun _ => ⟨rfl, rfl⟩), (fun e => absurd rfl e), (fun e => absurd (show (3 : Int) = 0 from e) (by decide)), (fun _ => ⟨rfl, rfl, rfl⟩), rfl, rfl, rfl, rfl, rfl, rfl, rfl, rfl, rfl, rfl, rfl⟩
                      exact hr
                · refine eW_iconst 82 rfl rfl ?_
                  refine eW_goto rfl ?_
                  refine eW_istore 100 rfl rfl [(5, vI 1), (4, vI (G.1 p.toNat)), (0, .ref 63), (1, vI p), (2, vI t), (3, vI l)] rfl rfl ?_
                  refine eW_aload_n 101 rfl rfl rfl ?_
                  refine eW_getfield 104 rfl rfl (Nat.ble_eq_true_of_le (by omega)) rfl (show h70 63 = .inr (11, [.ref 64, .ref 65, .ref 66, .ref 67, vI (s 4), vI (s 5), vI (s 6), vI 0, vI (s 8), vI (s 9), .ref 68, vI (s 11), vI (s 12), .ref 69, vI (s 14), .ref 70, .ref 71, vI (s 17), vI (s 18), vI (s 19), vI (s 20), .ref 72, vI (s 22)]) from hmh70.1) rfl ⟨rfl, fun _ h9 => nomatch h9⟩ ?_
                  refine eW_bipush 106 rfl rfl 7 rfl ?_
                  refine eW_iload_n 107 rfl rfl rfl ?_
                  refine eW_iadd 108 rfl rfl ?_
                  refine eW_iaload 109 rfl rfl (gDig G t) (Nat.ble_eq_true_of_le (by omega)) (show h70 64 = .inl (0, 62, .inl (eIA (A 0))) from hmh70.2.1) (by omega) (by omega) (by unfold i32; omega) (rR_d hr (by omega) (by omega)) ?_
                  refine eW_iload 111 rfl rfl rfl ?_
                  refine eW_iand 112 rfl rfl ((gDig G t) % 2) (eAnd1 hd.1 hd.2) ?_
                  refine eW_if_ne 115 rfl rfl (by unfold i32; omega) (fun c84 => ?_) (fun c84 => ?_)
                  · have hl9 : gLets (gDig G) (G.1 p.toNat) t l = true := gLets_t (by omega)
                    have hM9 : gMay G (p, t, l) := ⟨⟨by show 0 ≤ p; omega, by show p < _; omega⟩, ⟨by show 1 ≤ t; omega, by show t ≤ 6; omega⟩, hl9⟩
                    refine eW_aload_n 132 rfl rfl rfl ?_
                    refine eW_aload_n 133 rfl rfl rfl ?_
                    refine eW_getfield 136 rfl rfl (Nat.ble_eq_true_of_le (by omega)) rfl (show h70 63 = .inr (11, [.ref 64, .ref 65, .ref 66, .ref 67, vI (s 4), vI (s 5), vI (s 6), vI 0, vI (s 8), vI (s 9), .ref 68, vI (s 11), vI (s 12), .ref 69, vI (s 14), .ref 70, .ref 71, vI (s 17), vI (s 18), vI (s 19), vI (s 20), .ref 72, vI (s 22)]) from hmh70.1) rfl ⟨rfl, fun _ h9 => nomatch h9⟩ ?_
                    refine eW_callVH 139 [.ref 63, .ref 64] [] [] rfl rfl rfl rfl (Nat.ble_eq_true_of_le (by omega)) (show h70 63 = .inr (11, [.ref 64, .ref 65, .ref 66, .ref 67, vI (s 4), vI (s 5), vI (s 6), vI 0, vI (s 8), vI (s 9), .ref 68, vI (s 11), vI (s 12), .ref 69, vI (s 14), .ref 70, .ref 71, vI (s 17), vI (s 18), vI (s 19), vI (s 20), .ref 72, vI (s 22)]) from hmh70.1) rfl rfl rfl (m_keeps (d := d + 1) hmh70 hN hw6 hw5) rfl rfl ?_
                    intro h85 fh85
                    obtain ⟨s5, K5, f9h85⟩ := fh85
                    obtain ⟨f8h85, hk⟩ := f9h85
                    have hmh85 : mM h85 (sUp (sUp s 5 s5) 7 0) (mUp A 1 K5) := f8h85.1
                    have frh85 : mFr h h85 := mFr_t frh70 f8h85.2
                    refine eW_aload_n 140 rfl rfl rfl ?_
                    refine eW_iload_n 141 rfl rfl rfl ?_
                    refine eW_iload_n 142 rfl rfl rfl ?_
                    refine eW_iload_n 143 rfl rfl rfl ?_
                    refine eW_callVH 146 [.ref 63, vI p, vI t, vI l] [] [] rfl rfl rfl rfl (Nat.ble_eq_true_of_le (by omega)) (show h85 63 = .inr (11, [.ref 64, .ref 65, .ref 66, .ref 67, vI (s 4), vI s5, vI (s 6), vI 0, vI (s 8), vI (s 9), .ref 68, vI (s 11), vI (s 12), .ref 69, vI (s 14), .ref 70, .ref 71, vI (s 17), vI (s 18), vI (s 19), vI (s 20), .ref 72, vI (s 22)]) from hmh85.1) rfl rfl rfl (m_takes (d := d + 1) hmh85 hN hr hI hM9) rfl rfl ?_
                    intro h86 fh86
                    obtain ⟨g9, f9h86⟩ := fh86
                    obtain ⟨f8h86, hr9⟩ := f9h86
                    have hmh86 : mM h86 (sUp (sUp s 5 s5) 7 0) (mUp (mUp A 0 g9) 1 K5) := f8h86.1
                    have frh86 : mFr h h86 := mFr_t frh85 f8h86.2
                    refine eW_aload_n 147 rfl rfl rfl ?_
                    refine eW_getfield 150 rfl rfl (Nat.ble_eq_true_of_le (by omega)) rfl (show h86 63 = .inr (11, [.ref 64, .ref 65, .ref 66, .ref 67, vI (s 4), vI s5, vI (s 6), vI 0, vI (s 8), vI (s 9), .ref 68, vI (s 11), vI (s 12), .ref 69, vI (s 14), .ref 70, .ref 71, vI (s 17), vI (s 18), vI (s 19), vI (s 20), .ref 72, vI (s 22)]) from hmh86.1) rfl ⟨rfl, fun _ h9 => nomatch h9⟩ ?_
                    refine eW_iconst 151 rfl rfl ?_
                    refine eW_iaload 152 rfl rfl ((gMake G (p, t, l)).2.2.2.1) (Nat.ble_eq_true_of_le (by omega)) (show h86 64 = .inl (0, 62, .inl (eIA g9)) from hmh86.2.1) (by omega) (by omega) (by unfold i32; omega) (congrArg Int32.ofInt hr9.1) ?_
                    refine eW_ret_i rfl rfl (Or.inl rfl) ?_
                    have ho : oScp G p t l = (0, 0, 0, gMake G (p, t, l)) := by
                      exact oScp_f (by omega) (by omega) (by omega) (gLets_t (by omega))
                    refine ⟨_, _, _, _, rfl, hmh86, frh86, ?_⟩
                    unfold mOp
                    rw [ho]
                    refine ⟨rfl, ?_, (fun e => absurd (show (0 : Int) = 3 from e) (by decide)), (fun _ => ⟨rfl, rfl⟩), (fun _ => ⟨hk, rfl⟩), (fun e => absurd rfl e), rfl, rfl, rfl, rfl, rfl, rfl, rfl, rfl, rfl, rfl, rfl⟩
                    exact hr9
                  · refine eW_aload_n 116 rfl rfl rfl ?_
                    refine eW_iconst 117 rfl rfl ?_
                    refine eW_iconst 118 rfl rfl ?_
                    refine eW_aload_n 119 rfl rfl rfl ?_
                    refine eW_getfield 122 rfl rfl (Nat.ble_eq_true_of_le (by omega)) rfl (show h70 63 = .inr (11, [.ref 64, .ref 65, .ref 66, .ref 67, vI (s 4), vI (s 5), vI (s 6), vI 0, vI (s 8), vI (s 9), .ref 68, vI (s 11), vI (s 12), .ref 69, vI (s 14), .ref 70, .ref 71, vI (s 17), vI (s 18), vI (s 19), vI (s 20), .ref 72, vI (s 22)]) from hmh70.1) rfl ⟨rfl, fun _ h9 => nomatch h9⟩ ?_
                    refine eW_bipush 124 rfl rfl 7 rfl ?_
                    refine eW_iload_n 125 rfl rfl rfl ?_
                    refine eW_iadd 126 rfl rfl ?_
                    refine eW_iaload 127 rfl rfl (gDig G t) (Nat.ble_eq_true_of_le (by omega)) (show h70 64 = .inl (0, 62, .inl (eIA (A 0))) from hmh70.2.1) (by omega) (by omega) (by unfold i32; omega) (rR_d hr (by omega) (by omega)) ?_
                    refine eW_callVH 130 [.ref 63, vI 3, vI 3, vI (gDig G t)] [] [vI 0] rfl rfl rfl rfl (Nat.ble_eq_true_of_le (by omega)) (show h70 63 = .inr (11, [.ref 64, .ref 65, .ref 66, .ref 67, vI (s 4), vI (s 5), vI (s 6), vI 0, vI (s 8), vI (s 9), .ref 68, vI (s 11), vI (s 12), .ref 69, vI (s 14), .ref 70, .ref 71, vI (s 17), vI (s 18), vI (s 19), vI (s 20), .ref 72, vI (s 22)]) from hmh70.1) rfl rfl rfl (m_refuses (d := d + 2) hmh70 hN ) rfl rfl ?_
                    intro h87 fh87
                    have hmh87 : mM h87 (sUp (sUp (sUp s 7 3) 8 3) 9 (gDig G t)) A := fh87.1
                    have frh87 : mFr h h87 := mFr_t frh70 fh87.2
                    refine eW_ret_i rfl rfl (Or.inl rfl) ?_
                    have ho : oScp G p t l = (3, 3, gDig G t, G) := by
                      exact oScp_3 (by omega) (by omega) (by omega) (gLets_f (by omega))
                    refine ⟨_, _, _, _, rfl, hmh87, frh87, ?_⟩
                    unfold mOp
                    rw [ho]
                    refine ⟨rfl, ?_, (fun _ => ⟨rfl, rfl⟩), (fun e => absurd rfl e), (fun e => absurd (show (3 : Int) = 0 from e) (by decide)), (fun _ => ⟨rfl, rfl, rfl⟩), rfl, rfl, rfl, rfl, rfl, rfl, rfl, rfl, rfl, rfl, rfl⟩
                    exact hr
              · refine eW_aload_n 69 rfl rfl rfl ?_
                refine eW_iconst 70 rfl rfl ?_
                refine eW_iconst 71 rfl rfl ?_
                refine eW_iload 73 rfl rfl rfl ?_
                refine eW_callVH 76 [.ref 63, vI 3, vI 2, vI (G.1 p.toNat)] [] [vI 0] rfl rfl rfl rfl (Nat.ble_eq_true_of_le (by omega)) (show h70 63 = .inr (11, [.ref 64, .ref 65, .ref 66, .ref 67, vI (s 4), vI (s 5), vI (s 6), vI 0, vI (s 8), vI (s 9), .ref 68, vI (s 11), vI (s 12), .ref 69, vI (s 14), .ref 70, .ref 71, vI (s 17), vI (s 18), vI (s 19), vI (s 20), .ref 72, vI (s 22)]) from hmh70.1) rfl rfl rfl (m_refuses (d := d + 2) hmh70 hN ) rfl rfl ?_
                intro h88 fh88
                have hmh88 : mM h88 (sUp (sUp (sUp s 7 3) 8 2) 9 (G.1 p.toNat)) A := fh88.1
                have frh88 : mFr h h88 := mFr_t frh70 fh88.2
                refine eW_ret_i rfl rfl (Or.inl rfl) ?_
                have ho : oScp G p t l = (3, 2, G.1 p.toNat, G) := by
                  exact oScp_2 (by omega) (by omega) (by omega)
                refine ⟨_, _, _, _, rfl, hmh88, frh88, ?_⟩
                unfold mOp
                rw [ho]
                refine ⟨rfl, ?_, (fun _ => ⟨rfl, rfl⟩), (fun e => absurd rfl e), (fun e => absurd (show (3 : Int) = 0 from e) (by decide)), (fun _ => ⟨rfl, rfl, rfl⟩), rfl, rfl, rfl, rfl, rfl, rfl, rfl, rfl, rfl, rfl, rfl⟩
                exact hr
            · refine eW_iconst 52 rfl rfl ?_
              refine eW_ret_i rfl rfl (Or.inl rfl) ?_
              exfalso; omega
          · refine eW_iconst 41 rfl rfl ?_
            refine eW_goto rfl ?_
            have hflq89 := eD_c ((0 : Int) < 2)
            refine eW_callVH 48 [.ref 63, vI 2] [] [vI (eB01 (decide ((0 : Int) < 2)))] rfl rfl rfl rfl (Nat.ble_eq_true_of_le (by omega)) hm.1 rfl rfl rfl (m_fails (d := d + 2) hm hN (by unfold i32; omega)) rfl rfl ?_
            intro h90 fh90
            have hmh90 : mM h90 (sUp s 7 2) A := fh90.1
            have frh90 : mFr h h90 := mFr_t (fun _ _ => rfl) fh90.2
            refine eW_if_eq 51 rfl rfl (by unfold i32; omega) (fun c91 => ?_) (fun c91 => ?_)
            · refine eW_aload_n 54 rfl rfl rfl ?_
              refine eW_iload_n 55 rfl rfl rfl ?_
              have hmbq92 := g3 p.toNat (by omega)
              refine eW_callV 58 [.ref 63, vI p] [] [vI (G.1 p.toNat)] rfl rfl rfl rfl (Nat.ble_eq_true_of_le (by omega)) (show h90 63 = .inr (11, [.ref 64, .ref 65, .ref 66, .ref 67, vI (s 4), vI (s 5), vI (s 6), vI 2, vI (s 8), vI (s 9), .ref 68, vI (s 11), vI (s 12), .ref 69, vI (s 14), .ref 70, .ref 71, vI (s 17), vI (s 18), vI (s 19), vI (s 20), .ref 72, vI (s 22)]) from hmh90.1) rfl rfl rfl (m_marbles (d := d + 2) hmh90 hN hr hG (by omega)) rfl rfl ?_
              refine eW_istore 60 rfl rfl [(4, vI (G.1 p.toNat)), (0, .ref 63), (1, vI p), (2, vI t), (3, vI l)] rfl rfl ?_
              refine eW_iload_n 61 rfl rfl rfl ?_
              refine eW_iload 63 rfl rfl rfl ?_
              refine eW_iload_n 64 rfl rfl rfl ?_
              refine eW_isub 65 rfl rfl ?_
              refine eW_icmp_le 68 rfl rfl (by unfold i32; omega) (by unfold i32; omega) (fun c93 => ?_) (fun c93 => ?_)
              · refine eW_iload_n 78 rfl rfl rfl ?_
                refine eW_if_ne 81 rfl rfl (by unfold i32; omega) (fun c94 => ?_) (fun c94 => ?_)
                · refine eW_iload_n 86 rfl rfl rfl ?_
                  refine eW_iload 88 rfl rfl rfl ?_
                  refine eW_iload_n 89 rfl rfl rfl ?_
                  refine eW_isub 90 rfl rfl ?_
                  refine eW_icmp_ne 93 rfl rfl (by unfold i32; omega) (by unfold i32; omega) (fun c95 => ?_) (fun c95 => ?_)
                  · refine eW_iconst 98 rfl rfl ?_
                    refine eW_istore 100 rfl rfl [(5, vI 4), (4, vI (G.1 p.toNat)), (0, .ref 63), (1, vI p), (2, vI t), (3, vI l)] rfl rfl ?_
                    refine eW_aload_n 101 rfl rfl rfl ?_
                    refine eW_getfield 104 rfl rfl (Nat.ble_eq_true_of_le (by omega)) rfl (show h90 63 = .inr (11, [.ref 64, .ref 65, .ref 66, .ref 67, vI (s 4), vI (s 5), vI (s 6), vI 2, vI (s 8), vI (s 9), .ref 68, vI (s 11), vI (s 12), .ref 69, vI (s 14), .ref 70, .ref 71, vI (s 17), vI (s 18), vI (s 19), vI (s 20), .ref 72, vI (s 22)]) from hmh90.1) rfl ⟨rfl, fun _ h9 => nomatch h9⟩ ?_
                    refine eW_bipush 106 rfl rfl 7 rfl ?_
                    refine eW_iload_n 107 rfl rfl rfl ?_
                    refine eW_iadd 108 rfl rfl ?_
                    refine eW_iaload 109 rfl rfl (gDig G t) (Nat.ble_eq_true_of_le (by omega)) (show h90 64 = .inl (0, 62, .inl (eIA (A 0))) from hmh90.2.1) (by omega) (by omega) (by unfold i32; omega) (rR_d hr (by omega) (by omega)) ?_
                    refine eW_iload 111 rfl rfl rfl ?_
                    refine eW_iand 112 rfl rfl ((gDig G t) / 4 % 2 * 4) (eAnd4 hd.1 hd.2) ?_
                    refine eW_if_ne 115 rfl rfl (by unfold i32; omega) (fun c96 => ?_) (fun c96 => ?_)
                    · have hl9 : gLets (gDig G) (G.1 p.toNat) t l = true := gLets_t (by omega)
                      have hM9 : gMay G (p, t, l) := ⟨⟨by show 0 ≤ p; omega, by show p < _; omega⟩, ⟨by show 1 ≤ t; omega, by show t ≤ 6; omega⟩, hl9⟩
                      refine eW_aload_n 132 rfl rfl rfl ?_
                      refine eW_aload_n 133 rfl rfl rfl ?_
                      refine eW_getfield 136 rfl rfl (Nat.ble_eq_true_of_le (by omega)) rfl (show h90 63 = .inr (11, [.ref 64, .ref 65, .ref 66, .ref 67, vI (s 4), vI (s 5), vI (s 6), vI 2, vI (s 8), vI (s 9), .ref 68, vI (s 11), vI (s 12), .ref 69, vI (s 14), .ref 70, .ref 71, vI (s 17), vI (s 18), vI (s 19), vI (s 20), .ref 72, vI (s 22)]) from hmh90.1) rfl ⟨rfl, fun _ h9 => nomatch h9⟩ ?_
                      refine eW_callVH 139 [.ref 63, .ref 64] [] [] rfl rfl rfl rfl (Nat.ble_eq_true_of_le (by omega)) (show h90 63 = .inr (11, [.ref 64, .ref 65, .ref 66, .ref 67, vI (s 4), vI (s 5), vI (s 6), vI 2, vI (s 8), vI (s 9), .ref 68, vI (s 11), vI (s 12), .ref 69, vI (s 14), .ref 70, .ref 71, vI (s 17), vI (s 18), vI (s 19), vI (s 20), .ref 72, vI (s 22)]) from hmh90.1) rfl rfl rfl (m_keeps (d := d + 1) hmh90 hN hw6 hw5) rfl rfl ?_
                      intro h97 fh97
                      obtain ⟨s5, K5, f9h97⟩ := fh97
                      obtain ⟨f8h97, hk⟩ := f9h97
                      have hmh97 : mM h97 (sUp (sUp s 5 s5) 7 0) (mUp A 1 K5) := f8h97.1
                      have frh97 : mFr h h97 := mFr_t frh90 f8h97.2
                      refine eW_aload_n 140 rfl rfl rfl ?_
                      refine eW_iload_n 141 rfl rfl rfl ?_
                      refine eW_iload_n 142 rfl rfl rfl ?_
                      refine eW_iload_n 143 rfl rfl rfl ?_
                      refine eW_callVH 146 [.ref 63, vI p, vI t, vI l] [] [] rfl rfl rfl rfl (Nat.ble_eq_true_of_le (by omega)) (show h97 63 = .inr (11, [.ref 64, .ref 65, .ref 66, .ref 67, vI (s 4), vI s5, vI (s 6), vI 0, vI (s 8), vI (s 9), .ref 68, vI (s 11), vI (s 12), .ref 69, vI (s 14), .ref 70, .ref 71, vI (s 17), vI (s 18), vI (s 19), vI (s 20), .ref 72, vI (s 22)]) from hmh97.1) rfl rfl rfl (m_takes (d := d + 1) hmh97 hN hr hI hM9) rfl rfl ?_
                      intro h98 fh98
                      obtain ⟨g9, f9h98⟩ := fh98
                      obtain ⟨f8h98, hr9⟩ := f9h98
                      have hmh98 : mM h98 (sUp (sUp s 5 s5) 7 0) (mUp (mUp A 0 g9) 1 K5) := f8h98.1
                      have frh98 : mFr h h98 := mFr_t frh97 f8h98.2
                      refine eW_aload_n 147 rfl rfl rfl ?_
                      refine eW_getfield 150 rfl rfl (Nat.ble_eq_true_of_le (by omega)) rfl (show h98 63 = .inr (11, [.ref 64, .ref 65, .ref 66, .ref 67, vI (s 4), vI s5, vI (s 6), vI 0, vI (s 8), vI (s 9), .ref 68, vI (s 11), vI (s 12), .ref 69, vI (s 14), .ref 70, .ref 71, vI (s 17), vI (s 18), vI (s 19), vI (s 20), .ref 72, vI (s 22)]) from hmh98.1) rfl ⟨rfl, fun _ h9 => nomatch h9⟩ ?_
                      refine eW_iconst 151 rfl rfl ?_
                      refine eW_iaload 152 rfl rfl ((gMake G (p, t, l)).2.2.2.1) (Nat.ble_eq_true_of_le (by omega)) (show h98 64 = .inl (0, 62, .inl (eIA g9)) from hmh98.2.1) (by omega) (by omega) (by unfold i32; omega) (congrArg Int32.ofInt hr9.1) ?_
                      refine eW_ret_i rfl rfl (Or.inl rfl) ?_
                      have ho : oScp G p t l = (0, 0, 0, gMake G (p, t, l)) := by
                        exact oScp_f (by omega) (by omega) (by omega) (gLets_t (by omega))
                      refine ⟨_, _, _, _, rfl, hmh98, frh98, ?_⟩
                      unfold mOp
                      rw [ho]
                      refine ⟨rfl, ?_, (fun e => absurd (show (0 : Int) = 3 from e) (by decide)), (fun _ => ⟨rfl, rfl⟩), (fun _ => ⟨hk, rfl⟩), (fun e => absurd rfl e), rfl, rfl, rfl, rfl, rfl, rfl, rfl, rfl, rfl, rfl, rfl⟩
                      exact hr9
                    · refine eW_aload_n 116 rfl rfl rfl ?_
                      refine eW_iconst 117 rfl rfl ?_
                      refine eW_iconst 118 rfl rfl ?_
                      refine eW_aload_n 119 rfl rfl rfl ?_
                      refine eW_getfield 122 rfl rfl (Nat.ble_eq_true_of_le (by omega)) rfl (show h90 63 = .inr (11, [.ref 64, .ref 65, .ref 66, .ref 67, vI (s 4), vI (s 5), vI (s 6), vI 2, vI (s 8), vI (s 9), .ref 68, vI (s 11), vI (s 12), .ref 69, vI (s 14), .ref 70, .ref 71, vI (s 17), vI (s 18), vI (s 19), vI (s 20), .ref 72, vI (s 22)]) from hmh90.1) rfl ⟨rfl, fun _ h9 => nomatch h9⟩ ?_
                      refine eW_bipush 124 rfl rfl 7 rfl ?_
                      refine eW_iload_n 125 rfl rfl rfl ?_
                      refine eW_iadd 126 rfl rfl ?_
                      refine eW_iaload 127 rfl rfl (gDig G t) (Nat.ble_eq_true_of_le (by omega)) (show h90 64 = .inl (0, 62, .inl (eIA (A 0))) from hmh90.2.1) (by omega) (by omega) (by unfold i32; omega) (rR_d hr (by omega) (by omega)) ?_
                      refine eW_callVH 130 [.ref 63, vI 3, vI 3, vI (gDig G t)] [] [vI 0] rfl rfl rfl rfl (Nat.ble_eq_true_of_le (by omega)) (show h90 63 = .inr (11, [.ref 64, .ref 65, .ref 66, .ref 67, vI (s 4), vI (s 5), vI (s 6), vI 2, vI (s 8), vI (s 9), .ref 68, vI (s 11), vI (s 12), .ref 69, vI (s 14), .ref 70, .ref 71, vI (s 17), vI (s 18), vI (s 19), vI (s 20), .ref 72, vI (s 22)]) from hmh90.1) rfl rfl rfl (m_refuses (d := d + 2) hmh90 hN ) rfl rfl ?_
                      intro h99 fh99
                      have hmh99 : mM h99 (sUp (sUp (sUp s 7 3) 8 3) 9 (gDig G t)) A := fh99.1
                      have frh99 : mFr h h99 := mFr_t frh90 fh99.2
                      refine eW_ret_i rfl rfl (Or.inl rfl) ?_
                      have ho : oScp G p t l = (3, 3, gDig G t, G) := by
                        exact oScp_3 (by omega) (by omega) (by omega) (gLets_f (by omega))
                      refine ⟨_, _, _, _, rfl, hmh99, frh99, ?_⟩
                      unfold mOp
                      rw [ho]
                      refine ⟨rfl, ?_, (fun _ => ⟨rfl, rfl⟩), (fun e => absurd rfl e), (fun e => absurd (show (3 : Int) = 0 from e) (by decide)), (fun _ => ⟨rfl, rfl, rfl⟩), rfl, rfl, rfl, rfl, rfl, rfl, rfl, rfl, rfl, rfl, rfl⟩
                      exact hr
                  · refine eW_iconst 94 rfl rfl ?_
                    refine eW_goto rfl ?_
                    refine eW_istore 100 rfl rfl [(5, vI 2), (4, vI (G.1 p.toNat)), (0, .ref 63), (1, vI p), (2, vI t), (3, vI l)] rfl rfl ?_
                    refine eW_aload_n 101 rfl rfl rfl ?_
                    refine eW_getfield 104 rfl rfl (Nat.ble_eq_true_of_le (by omega)) rfl (show h90 63 = .inr (11, [.ref 64, .ref 65, .ref 66, .ref 67, vI (s 4), vI (s 5), vI (s 6), vI 2, vI (s 8), vI (s 9), .ref 68, vI (s 11), vI (s 12), .ref 69, vI (s 14), .ref 70, .ref 71, vI (s 17), vI (s 18), vI (s 19), vI (s 20), .ref 72, vI (s 22)]) from hmh90.1) rfl ⟨rfl, fun _ h9 => nomatch h9⟩ ?_
                    refine eW_bipush 106 rfl rfl 7 rfl ?_
                    refine eW_iload_n 107 rfl rfl rfl ?_
                    refine eW_iadd 108 rfl rfl ?_
                    refine eW_iaload 109 rfl rfl (gDig G t) (Nat.ble_eq_true_of_le (by omega)) (show h90 64 = .inl (0, 62, .inl (eIA (A 0))) from hmh90.2.1) (by omega) (by omega) (by unfold i32; omega) (rR_d hr (by omega) (by omega)) ?_
                    refine eW_iload 111 rfl rfl rfl ?_
                    refine eW_iand 112 rfl rfl ((gDig G t) / 2 % 2 * 2) (eAnd2 hd.1 hd.2) ?_
                    refine eW_if_ne 115 rfl rfl (by unfold i32; omega) (fun c100 => ?_) (fun c100 => ?_)
                    · have hl9 : gLets (gDig G) (G.1 p.toNat) t l = true := gLets_t (by omega)
                      have hM9 : gMay G (p, t, l) := ⟨⟨by show 0 ≤ p; omega, by show p < _; omega⟩, ⟨by show 1 ≤ t; omega, by show t ≤ 6; omega⟩, hl9⟩
                      refine eW_aload_n 132 rfl rfl rfl ?_
                      refine eW_aload_n 133 rfl rfl rfl ?_
                      refine eW_getfield 136 rfl rfl (Nat.ble_eq_true_of_le (by omega)) rfl (show h90 63 = .inr (11, [.ref 64, .ref 65, .ref 66, .ref 67, vI (s 4), vI (s 5), vI (s 6), vI 2, vI (s 8), vI (s 9), .ref 68, vI (s 11), vI (s 12), .ref 69, vI (s 14), .ref 70, .ref 71, vI (s 17), vI (s 18), vI (s 19), vI (s 20), .ref 72, vI (s 22)]) from hmh90.1) rfl ⟨rfl, fun _ h9 => nomatch h9⟩ ?_
                      refine eW_callVH 139 [.ref 63, .ref 64] [] [] rfl rfl rfl rfl (Nat.ble_eq_true_of_le (by omega)) (show h90 63 = .inr (11, [.ref 64, .ref 65, .ref 66, .ref 67, vI (s 4), vI (s 5), vI (s 6), vI 2, vI (s 8), vI (s 9), .ref 68, vI (s 11), vI (s 12), .ref 69, vI (s 14), .ref 70, .ref 71, vI (s 17), vI (s 18), vI (s 19), vI (s 20), .ref 72, vI (s 22)]) from hmh90.1) rfl rfl rfl (m_keeps (d := d + 1) hmh90 hN hw6 hw5) rfl rfl ?_
                      intro h101 fh101
                      obtain ⟨s5, K5, f9h101⟩ := fh101
                      obtain ⟨f8h101, hk⟩ := f9h101
                      have hmh101 : mM h101 (sUp (sUp s 5 s5) 7 0) (mUp A 1 K5) := f8h101.1
                      have frh101 : mFr h h101 := mFr_t frh90 f8h101.2
                      refine eW_aload_n 140 rfl rfl rfl ?_
                      refine eW_iload_n 141 rfl rfl rfl ?_
                      refine eW_iload_n 142 rfl rfl rfl ?_
                      refine eW_iload_n 143 rfl rfl rfl ?_
                      refine eW_callVH 146 [.ref 63, vI p, vI t, vI l] [] [] rfl rfl rfl rfl (Nat.ble_eq_true_of_le (by omega)) (show h101 63 = .inr (11, [.ref 64, .ref 65, .ref 66, .ref 67, vI (s 4), vI s5, vI (s 6), vI 0, vI (s 8), vI (s 9), .ref 68, vI (s 11), vI (s 12), .ref 69, vI (s 14), .ref 70, .ref 71, vI (s 17), vI (s 18), vI (s 19), vI (s 20), .ref 72, vI (s 22)]) from hmh101.1) rfl rfl rfl (m_takes (d := d + 1) hmh101 hN hr hI hM9) rfl rfl ?_
                      intro h102 fh102
                      obtain ⟨g9, f9h102⟩ := fh102
                      obtain ⟨f8h102, hr9⟩ := f9h102
                      have hmh102 : mM h102 (sUp (sUp s 5 s5) 7 0) (mUp (mUp A 0 g9) 1 K5) := f8h102.1
                      have frh102 : mFr h h102 := mFr_t frh101 f8h102.2
                      refine eW_aload_n 147 rfl rfl rfl ?_
                      refine eW_getfield 150 rfl rfl (Nat.ble_eq_true_of_le (by omega)) rfl (show h102 63 = .inr (11, [.ref 64, .ref 65, .ref 66, .ref 67, vI (s 4), vI s5, vI (s 6), vI 0, vI (s 8), vI (s 9), .ref 68, vI (s 11), vI (s 12), .ref 69, vI (s 14), .ref 70, .ref 71, vI (s 17), vI (s 18), vI (s 19), vI (s 20), .ref 72, vI (s 22)]) from hmh102.1) rfl ⟨rfl, fun _ h9 => nomatch h9⟩ ?_
                      refine eW_iconst 151 rfl rfl ?_
                      refine eW_iaload 152 rfl rfl ((gMake G (p, t, l)).2.2.2.1) (Nat.ble_eq_true_of_le (by omega)) (show h102 64 = .inl (0, 62, .inl (eIA g9)) from hmh102.2.1) (by omega) (by omega) (by unfold i32; omega) (congrArg Int32.ofInt hr9.1) ?_
                      refine eW_ret_i rfl rfl (Or.inl rfl) ?_
                      have ho : oScp G p t l = (0, 0, 0, gMake G (p, t, l)) := by
                        exact oScp_f (by omega) (by omega) (by omega) (gLets_t (by omega))
                      refine ⟨_, _, _, _, rfl, hmh102, frh102, ?_⟩
                      unfold mOp
                      rw [ho]
                      refine ⟨rfl, ?_, (fun e => absurd (show (0 : Int) = 3 from e) (by decide)), (fun _ => ⟨rfl, rfl⟩), (fun _ => ⟨hk, rfl⟩), (fun e => absurd rfl e), rfl, rfl, rfl, rfl, rfl, rfl, rfl, rfl, rfl, rfl, rfl⟩
                      exact hr9
                    · refine eW_aload_n 116 rfl rfl rfl ?_
                      refine eW_iconst 117 rfl rfl ?_
                      refine eW_iconst 118 rfl rfl ?_
                      refine eW_aload_n 119 rfl rfl rfl ?_
                      refine eW_getfield 122 rfl rfl (Nat.ble_eq_true_of_le (by omega)) rfl (show h90 63 = .inr (11, [.ref 64, .ref 65, .ref 66, .ref 67, vI (s 4), vI (s 5), vI (s 6), vI 2, vI (s 8), vI (s 9), .ref 68, vI (s 11), vI (s 12), .ref 69, vI (s 14), .ref 70, .ref 71, vI (s 17), vI (s 18), vI (s 19), vI (s 20), .ref 72, vI (s 22)]) from hmh90.1) rfl ⟨rfl, fun _ h9 => nomatch h9⟩ ?_
                      refine eW_bipush 124 rfl rfl 7 rfl ?_
                      refine eW_iload_n 125 rfl rfl rfl ?_
                      refine eW_iadd 126 rfl rfl ?_
                      refine eW_iaload 127 rfl rfl (gDig G t) (Nat.ble_eq_true_of_le (by omega)) (show h90 64 = .inl (0, 62, .inl (eIA (A 0))) from hmh90.2.1) (by omega) (by omega) (by unfold i32; omega) (rR_d hr (by omega) (by omega)) ?_
                      refine eW_callVH 130 [.ref 63, vI 3, vI 3, vI (gDig G t)] [] [vI 0] rfl rfl rfl rfl (Nat.ble_eq_true_of_le (by omega)) (show h90 63 = .inr (11, [.ref 64, .ref 65, .ref 66, .ref 67, vI (s 4), vI (s 5), vI (s 6), vI 2, vI (s 8), vI (s 9), .ref 68, vI (s 11), vI (s 12), .ref 69, vI (s 14), .ref 70, .ref 71, vI (s 17), vI (s 18), vI (s 19), vI (s 20), .ref 72, vI (s 22)]) from hmh90.1) rfl rfl rfl (m_refuses (d := d + 2) hmh90 hN ) rfl rfl ?_
                      intro h103 fh103
                      have hmh103 : mM h103 (sUp (sUp (sUp s 7 3) 8 3) 9 (gDig G t)) A := fh103.1
                      have frh103 : mFr h h103 := mFr_t frh90 fh103.2
                      refine eW_ret_i rfl rfl (Or.inl rfl) ?_
                      have ho : oScp G p t l = (3, 3, gDig G t, G) := by
                        exact oScp_3 (by omega) (by omega) (by omega) (gLets_f (by omega))
                      refine ⟨_, _, _, _, rfl, hmh103, frh103, ?_⟩
                      unfold mOp
                      rw [ho]
                      refine ⟨rfl, ?_, (fun _ => ⟨rfl, rfl⟩), (fun e => absurd rfl e), (fun e => absurd (show (3 : Int) = 0 from e) (by decide)), (fun _ => ⟨rfl, rfl, rfl⟩), rfl, rfl, rfl, rfl, rfl, rfl, rfl, rfl, rfl, rfl, rfl⟩
                      exact hr
                · refine eW_iconst 82 rfl rfl ?_
                  refine eW_goto rfl ?_
                  refine eW_istore 100 rfl rfl [(5, vI 1), (4, vI (G.1 p.toNat)), (0, .ref 63), (1, vI p), (2, vI t), (3, vI l)] rfl rfl ?_
                  refine eW_aload_n 101 rfl rfl rfl ?_
                  refine eW_getfield 104 rfl rfl (Nat.ble_eq_true_of_le (by omega)) rfl (show h90 63 = .inr (11, [.ref 64, .ref 65, .ref 66, .ref 67, vI (s 4), vI (s 5), vI (s 6), vI 2, vI (s 8), vI (s 9), .ref 68, vI (s 11), vI (s 12), .ref 69, vI (s 14), .ref 70, .ref 71, vI (s 17), vI (s 18), vI (s 19), vI (s 20), .ref 72, vI (s 22)]) from hmh90.1) rfl ⟨rfl, fun _ h9 => nomatch h9⟩ ?_
                  refine eW_bipush 106 rfl rfl 7 rfl ?_
                  refine eW_iload_n 107 rfl rfl rfl ?_
                  refine eW_iadd 108 rfl rfl ?_
                  refine eW_iaload 109 rfl rfl (gDig G t) (Nat.ble_eq_true_of_le (by omega)) (show h90 64 = .inl (0, 62, .inl (eIA (A 0))) from hmh90.2.1) (by omega) (by omega) (by unfold i32; omega) (rR_d hr (by omega) (by omega)) ?_
                  refine eW_iload 111 rfl rfl rfl ?_
                  refine eW_iand 112 rfl rfl ((gDig G t) % 2) (eAnd1 hd.1 hd.2) ?_
                  refine eW_if_ne 115 rfl rfl (by unfold i32; omega) (fun c104 => ?_) (fun c104 => ?_)
                  · have hl9 : gLets (gDig G) (G.1 p.toNat) t l = true := gLets_t (by omega)
                    have hM9 : gMay G (p, t, l) := ⟨⟨by show 0 ≤ p; omega, by show p < _; omega⟩, ⟨by show 1 ≤ t; omega, by show t ≤ 6; omega⟩, hl9⟩
                    refine eW_aload_n 132 rfl rfl rfl ?_
                    refine eW_aload_n 133 rfl rfl rfl ?_
                    refine eW_getfield 136 rfl rfl (Nat.ble_eq_true_of_le (by omega)) rfl (show h90 63 = .inr (11, [.ref 64, .ref 65, .ref 66, .ref 67, vI (s 4), vI (s 5), vI (s 6), vI 2, vI (s 8), vI (s 9), .ref 68, vI (s 11), vI (s 12), .ref 69, vI (s 14), .ref 70, .ref 71, vI (s 17), vI (s 18), vI (s 19), vI (s 20), .ref 72, vI (s 22)]) from hmh90.1) rfl ⟨rfl, fun _ h9 => nomatch h9⟩ ?_
                    refine eW_callVH 139 [.ref 63, .ref 64] [] [] rfl rfl rfl rfl (Nat.ble_eq_true_of_le (by omega)) (show h90 63 = .inr (11, [.ref 64, .ref 65, .ref 66, .ref 67, vI (s 4), vI (s 5), vI (s 6), vI 2, vI (s 8), vI (s 9), .ref 68, vI (s 11), vI (s 12), .ref 69, vI (s 14), .ref 70, .ref 71, vI (s 17), vI (s 18), vI (s 19), vI (s 20), .ref 72, vI (s 22)]) from hmh90.1) rfl rfl rfl (m_keeps (d := d + 1) hmh90 hN hw6 hw5) rfl rfl ?_
                    intro h105 fh105
                    obtain ⟨s5, K5, f9h105⟩ := fh105
                    obtain ⟨f8h105, hk⟩ := f9h105
                    have hmh105 : mM h105 (sUp (sUp s 5 s5) 7 0) (mUp A 1 K5) := f8h105.1
                    have frh105 : mFr h h105 := mFr_t frh90 f8h105.2
                    refine eW_aload_n 140 rfl rfl rfl ?_
                    refine eW_iload_n 141 rfl rfl rfl ?_
                    refine eW_iload_n 142 rfl rfl rfl ?_
                    refine eW_iload_n 143 rfl rfl rfl ?_
                    refine eW_callVH 146 [.ref 63, vI p, vI t, vI l] [] [] rfl rfl rfl rfl (Nat.ble_eq_true_of_le (by omega)) (show h105 63 = .inr (11, [.ref 64, .ref 65, .ref 66, .ref 67, vI (s 4), vI s5, vI (s 6), vI 0, vI (s 8), vI (s 9), .ref 68, vI (s 11), vI (s 12), .ref 69, vI (s 14), .ref 70, .ref 71, vI (s 17), vI (s 18), vI (s 19), vI (s 20), .ref 72, vI (s 22)]) from hmh105.1) rfl rfl rfl (m_takes (d := d + 1) hmh105 hN hr hI hM9) rfl rfl ?_
                    intro h106 fh106
                    obtain ⟨g9, f9h106⟩ := fh106
                    obtain ⟨f8h106, hr9⟩ := f9h106
                    have hmh106 : mM h106 (sUp (sUp s 5 s5) 7 0) (mUp (mUp A 0 g9) 1 K5) := f8h106.1
                    have frh106 : mFr h h106 := mFr_t frh105 f8h106.2
                    refine eW_aload_n 147 rfl rfl rfl ?_
                    refine eW_getfield 150 rfl rfl (Nat.ble_eq_true_of_le (by omega)) rfl (show h106 63 = .inr (11, [.ref 64, .ref 65, .ref 66, .ref 67, vI (s 4), vI s5, vI (s 6), vI 0, vI (s 8), vI (s 9), .ref 68, vI (s 11), vI (s 12), .ref 69, vI (s 14), .ref 70, .ref 71, vI (s 17), vI (s 18), vI (s 19), vI (s 20), .ref 72, vI (s 22)]) from hmh106.1) rfl ⟨rfl, fun _ h9 => nomatch h9⟩ ?_
                    refine eW_iconst 151 rfl rfl ?_
                    refine eW_iaload 152 rfl rfl ((gMake G (p, t, l)).2.2.2.1) (Nat.ble_eq_true_of_le (by omega)) (show h106 64 = .inl (0, 62, .inl (eIA g9)) from hmh106.2.1) (by omega) (by omega) (by unfold i32; omega) (congrArg Int32.ofInt hr9.1) ?_
                    refine eW_ret_i rfl rfl (Or.inl rfl) ?_
                    have ho : oScp G p t l = (0, 0, 0, gMake G (p, t, l)) := by
                      exact oScp_f (by omega) (by omega) (by omega) (gLets_t (by omega))
                    refine ⟨_, _, _, _, rfl, hmh106, frh106, ?_⟩
                    unfold mOp
                    rw [ho]
                    refine ⟨rfl, ?_, (fun e => absurd (show (0 : Int) = 3 from e) (by decide)), (fun _ => ⟨rfl, rfl⟩), (fun _ => ⟨hk, rfl⟩), (fun e => absurd rfl e), rfl, rfl, rfl, rfl, rfl, rfl, rfl, rfl, rfl, rfl, rfl⟩
                    exact hr9
                  · refine eW_aload_n 116 rfl rfl rfl ?_
                    refine eW_iconst 117 rfl rfl ?_
                    refine eW_iconst 118 rfl rfl ?_
                    refine eW_aload_n 119 rfl rfl rfl ?_
                    refine eW_getfield 122 rfl rfl (Nat.ble_eq_true_of_le (by omega)) rfl (show h90 63 = .inr (11, [.ref 64, .ref 65, .ref 66, .ref 67, vI (s 4), vI (s 5), vI (s 6), vI 2, vI (s 8), vI (s 9), .ref 68, vI (s 11), vI (s 12), .ref 69, vI (s 14), .ref 70, .ref 71, vI (s 17), vI (s 18), vI (s 19), vI (s 20), .ref 72, vI (s 22)]) from hmh90.1) rfl ⟨rfl, fun _ h9 => nomatch h9⟩ ?_
                    refine eW_bipush 124 rfl rfl 7 rfl ?_
                    refine eW_iload_n 125 rfl rfl rfl ?_
                    refine eW_iadd 126 rfl rfl ?_
                    refine eW_iaload 127 rfl rfl (gDig G t) (Nat.ble_eq_true_of_le (by omega)) (show h90 64 = .inl (0, 62, .inl (eIA (A 0))) from hmh90.2.1) (by omega) (by omega) (by unfold i32; omega) (rR_d hr (by omega) (by omega)) ?_
                    refine eW_callVH 130 [.ref 63, vI 3, vI 3, vI (gDig G t)] [] [vI 0] rfl rfl rfl rfl (Nat.ble_eq_true_of_le (by omega)) (show h90 63 = .inr (11, [.ref 64, .ref 65, .ref 66, .ref 67, vI (s 4), vI (s 5), vI (s 6), vI 2, vI (s 8), vI (s 9), .ref 68, vI (s 11), vI (s 12), .ref 69, vI (s 14), .ref 70, .ref 71, vI (s 17), vI (s 18), vI (s 19), vI (s 20), .ref 72, vI (s 22)]) from hmh90.1) rfl rfl rfl (m_refuses (d := d + 2) hmh90 hN ) rfl rfl ?_
                    intro h107 fh107
                    have hmh107 : mM h107 (sUp (sUp (sUp s 7 3) 8 3) 9 (gDig G t)) A := fh107.1
                    have frh107 : mFr h h107 := mFr_t frh90 fh107.2
                    refine eW_ret_i rfl rfl (Or.inl rfl) ?_
                    have ho : oScp G p t l = (3, 3, gDig G t, G) := by
                      exact oScp_3 (by omega) (by omega) (by omega) (gLets_f (by omega))
                    refine ⟨_, _, _, _, rfl, hmh107, frh107, ?_⟩
                    unfold mOp
                    rw [ho]
                    refine ⟨rfl, ?_, (fun _ => ⟨rfl, rfl⟩), (fun e => absurd rfl e), (fun e => absurd (show (3 : Int) = 0 from e) (by decide)), (fun _ => ⟨rfl, rfl, rfl⟩), rfl, rfl, rfl, rfl, rfl, rfl, rfl, rfl, rfl, rfl, rfl⟩
                    exact hr
              · refine eW_aload_n 69 rfl rfl rfl ?_
                refine eW_iconst 70 rfl rfl ?_
                refine eW_iconst 71 rfl rfl ?_
                refine eW_iload 73 rfl rfl rfl ?_
                refine eW_callVH 76 [.ref 63, vI 3, vI 2, vI (G.1 p.toNat)] [] [vI 0] rfl rfl rfl rfl (Nat.ble_eq_true_of_le (by omega)) (show h90 63 = .inr (11, [.ref 64, .ref 65, .ref 66, .ref 67, vI (s 4), vI (s 5), vI (s 6), vI 2, vI (s 8), vI (s 9), .ref 68, vI (s 11), vI (s 12), .ref 69, vI (s 14), .ref 70, .ref 71, vI (s 17), vI (s 18), vI (s 19), vI (s 20), .ref 72, vI (s 22)]) from hmh90.1) rfl rfl rfl (m_refuses (d := d + 2) hmh90 hN ) rfl rfl ?_
                intro h108 fh108
                have hmh108 : mM h108 (sUp (sUp (sUp s 7 3) 8 2) 9 (G.1 p.toNat)) A := fh108.1
                have frh108 : mFr h h108 := mFr_t frh90 fh108.2
                refine eW_ret_i rfl rfl (Or.inl rfl) ?_
                have ho : oScp G p t l = (3, 2, G.1 p.toNat, G) := by
                  exact oScp_2 (by omega) (by omega) (by omega)
                refine ⟨_, _, _, _, rfl, hmh108, frh108, ?_⟩
                unfold mOp
                rw [ho]
                refine ⟨rfl, ?_, (fun _ => ⟨rfl, rfl⟩), (fun e => absurd rfl e), (fun e => absurd (show (3 : Int) = 0 from e) (by decide)), (fun _ => ⟨rfl, rfl, rfl⟩), rfl, rfl, rfl, rfl, rfl, rfl, rfl, rfl, rfl, rfl, rfl⟩
                exact hr
            · refine eW_iconst 52 rfl rfl ?_
              refine eW_ret_i rfl rfl (Or.inl rfl) ?_
              have ho : oScp G p t l = (2, 0, 0, G) := by
                exact oScp_b (by omega) (by omega)
              refine ⟨_, _, _, _, rfl, hmh90, frh90, ?_⟩
              unfold mOp
              rw [ho]
              refine ⟨rfl, ?_, (fun e => absurd (show (2 : Int) = 3 from e) (by decide)), (fun _ => ⟨rfl, rfl⟩), (fun e => absurd (show (2 : Int) = 0 from e) (by decide)), (fun _ => ⟨rfl, rfl, rfl⟩), rfl, rfl, rfl, rfl, rfl, rfl, rfl, rfl, rfl, rfl, rfl⟩
              exact hr
  · refine eW_iconst 10 rfl rfl ?_
    refine eW_goto rfl ?_
    have hflq109 := eD_c ((0 : Int) < 1)
    refine eW_callVH 48 [.ref 63, vI 1] [] [vI (eB01 (decide ((0 : Int) < 1)))] rfl rfl rfl rfl (Nat.ble_eq_true_of_le (by omega)) hm.1 rfl rfl rfl (m_fails (d := d + 2) hm hN (by unfold i32; omega)) rfl rfl ?_
    intro h110 fh110
    have hmh110 : mM h110 (sUp s 7 1) A := fh110.1
    have frh110 : mFr h h110 := mFr_t (fun _ _ => rfl) fh110.2
    refine eW_if_eq 51 rfl rfl (by unfold i32; omega) (fun c111 => ?_) (fun c111 => ?_)
    · refine eW_aload_n 54 rfl rfl rfl ?_
      refine eW_iload_n 55 rfl rfl rfl ?_
      have hmbq112 := g3 p.toNat (by omega)
      refine eW_callV 58 [.ref 63, vI p] [] [vI (G.1 p.toNat)] rfl rfl rfl rfl (Nat.ble_eq_true_of_le (by omega)) (show h110 63 = .inr (11, [.ref 64, .ref 65, .ref 66, .ref 67, vI (s 4), vI (s 5), vI (s 6), vI 1, vI (s 8), vI (s 9), .ref 68, vI (s 11), vI (s 12), .ref 69, vI (s 14), .ref 70, .ref 71, vI (s 17), vI (s 18), vI (s 19), vI (s 20), .ref 72, vI (s 22)]) from hmh110.1) rfl rfl rfl (m_marbles (d := d + 2) hmh110 hN hr hG (by omega)) rfl rfl ?_
      refine eW_istore 60 rfl rfl [(4, vI (G.1 p.toNat)), (0, .ref 63), (1, vI p), (2, vI t), (3, vI l)] rfl rfl ?_
      refine eW_iload_n 61 rfl rfl rfl ?_
      refine eW_iload 63 rfl rfl rfl ?_
      refine eW_iload_n 64 rfl rfl rfl ?_
      refine eW_isub 65 rfl rfl ?_
      refine eW_icmp_le 68 rfl rfl (by unfold i32; omega) (by unfold i32; omega) (fun c113 => ?_) (fun c113 => ?_)
      · refine eW_iload_n 78 rfl rfl rfl ?_
        refine eW_if_ne 81 rfl rfl (by unfold i32; omega) (fun c114 => ?_) (fun c114 => ?_)
        · refine eW_iload_n 86 rfl rfl rfl ?_
          refine eW_iload 88 rfl rfl rfl ?_
          refine eW_iload_n 89 rfl rfl rfl ?_
          refine eW_isub 90 rfl rfl ?_
          refine eW_icmp_ne 93 rfl rfl (by unfold i32; omega) (by unfold i32; omega) (fun c115 => ?_) (fun c115 => ?_)
          · refine eW_iconst 98 rfl rfl ?_
            refine eW_istore 100 rfl rfl [(5, vI 4), (4, vI (G.1 p.toNat)), (0, .ref 63), (1, vI p), (2, vI t), (3, vI l)] rfl rfl ?_
            refine eW_aload_n 101 rfl rfl rfl ?_
            refine eW_getfield 104 rfl rfl (Nat.ble_eq_true_of_le (by omega)) rfl (show h110 63 = .inr (11, [.ref 64, .ref 65, .ref 66, .ref 67, vI (s 4), vI (s 5), vI (s 6), vI 1, vI (s 8), vI (s 9), .ref 68, vI (s 11), vI (s 12), .ref 69, vI (s 14), .ref 70, .ref 71, vI (s 17), vI (s 18), vI (s 19), vI (s 20), .ref 72, vI (s 22)]) from hmh110.1) rfl ⟨rfl, fun _ h9 => nomatch h9⟩ ?_
            refine eW_bipush 106 rfl rfl 7 rfl ?_
            refine eW_iload_n 107 rfl rfl rfl ?_
            refine eW_iadd 108 rfl rfl ?_
            refine eW_iaload 109 rfl rfl (gDig G t) (Nat.ble_eq_true_of_le (by omega)) (show h110 64 = .inl (0, 62, .inl (eIA (A 0))) from hmh110.2.1) (by omega) (by omega) (by unfold i32; omega) (rR_d hr (by omega) (by omega)) ?_
            refine eW_iload 111 rfl rfl rfl ?_
            refine eW_iand 112 rfl rfl ((gDig G t) / 4 % 2 * 4) (eAnd4 hd.1 hd.2) ?_
            refine eW_if_ne 115 rfl rfl (by unfold i32; omega) (fun c116 => ?_) (fun c116 => ?_)
            · have hl9 : gLets (gDig G) (G.1 p.toNat) t l = true := gLets_t (by omega)
              have hM9 : gMay G (p, t, l) := ⟨⟨by show 0 ≤ p; omega, by show p < _; omega⟩, ⟨by show 1 ≤ t; omega, by show t ≤ 6; omega⟩, hl9⟩
              refine eW_aload_n 132 rfl rfl rfl ?_
              refine eW_aload_n 133 rfl rfl rfl ?_
              refine eW_getfield 136 rfl rfl (Nat.ble_eq_true_of_le (by omega)) rfl (show h110 63 = .inr (11, [.ref 64, .ref 65, .ref 66, .ref 67, vI (s 4), vI (s 5), vI (s 6), vI 1, vI (s 8), vI (s 9), .ref 68, vI (s 11), vI (s 12), .ref 69, vI (s 14), .ref 70, .ref 71, vI (s 17), vI (s 18), vI (s 19), vI (s 20), .ref 72, vI (s 22)]) from hmh110.1) rfl ⟨rfl, fun _ h9 => nomatch h9⟩ ?_
              refine eW_callVH 139 [.ref 63, .ref 64] [] [] rfl rfl rfl rfl (Nat.ble_eq_true_of_le (by omega)) (show h110 63 = .inr (11, [.ref 64, .ref 65, .ref 66, .ref 67, vI (s 4), vI (s 5), vI (s 6), vI 1, vI (s 8), vI (s 9), .ref 68, vI (s 11), vI (s 12), .ref 69, vI (s 14), .ref 70, .ref 71, vI (s 17), vI (s 18), vI (s 19), vI (s 20), .ref 72, vI (s 22)]) from hmh110.1) rfl rfl rfl (m_keeps (d := d + 1) hmh110 hN hw6 hw5) rfl rfl ?_
              intro h117 fh117
              obtain ⟨s5, K5, f9h117⟩ := fh117
              obtain ⟨f8h117, hk⟩ := f9h117
              have hmh117 : mM h117 (sUp (sUp s 5 s5) 7 0) (mUp A 1 K5) := f8h117.1
              have frh117 : mFr h h117 := mFr_t frh110 f8h117.2
              refine eW_aload_n 140 rfl rfl rfl ?_
              refine eW_iload_n 141 rfl rfl rfl ?_
              refine eW_iload_n 142 rfl rfl rfl ?_
              refine eW_iload_n 143 rfl rfl rfl ?_
              refine eW_callVH 146 [.ref 63, vI p, vI t, vI l] [] [] rfl rfl rfl rfl (Nat.ble_eq_true_of_le (by omega)) (show h117 63 = .inr (11, [.ref 64, .ref 65, .ref 66, .ref 67, vI (s 4), vI s5, vI (s 6), vI 0, vI (s 8), vI (s 9), .ref 68, vI (s 11), vI (s 12), .ref 69, vI (s 14), .ref 70, .ref 71, vI (s 17), vI (s 18), vI (s 19), vI (s 20), .ref 72, vI (s 22)]) from hmh117.1) rfl rfl rfl (m_takes (d := d + 1) hmh117 hN hr hI hM9) rfl rfl ?_
              intro h118 fh118
              obtain ⟨g9, f9h118⟩ := fh118
              obtain ⟨f8h118, hr9⟩ := f9h118
              have hmh118 : mM h118 (sUp (sUp s 5 s5) 7 0) (mUp (mUp A 0 g9) 1 K5) := f8h118.1
              have frh118 : mFr h h118 := mFr_t frh117 f8h118.2
              refine eW_aload_n 147 rfl rfl rfl ?_
              refine eW_getfield 150 rfl rfl (Nat.ble_eq_true_of_le (by omega)) rfl (show h118 63 = .inr (11, [.ref 64, .ref 65, .ref 66, .ref 67, vI (s 4), vI s5, vI (s 6), vI 0, vI (s 8), vI (s 9), .ref 68, vI (s 11), vI (s 12), .ref 69, vI (s 14), .ref 70, .ref 71, vI (s 17), vI (s 18), vI (s 19), vI (s 20), .ref 72, vI (s 22)]) from hmh118.1) rfl ⟨rfl, fun _ h9 => nomatch h9⟩ ?_
              refine eW_iconst 151 rfl rfl ?_
              refine eW_iaload 152 rfl rfl ((gMake G (p, t, l)).2.2.2.1) (Nat.ble_eq_true_of_le (by omega)) (show h118 64 = .inl (0, 62, .inl (eIA g9)) from hmh118.2.1) (by omega) (by omega) (by unfold i32; omega) (congrArg Int32.ofInt hr9.1) ?_
              refine eW_ret_i rfl rfl (Or.inl rfl) ?_
              have ho : oScp G p t l = (0, 0, 0, gMake G (p, t, l)) := by
                exact oScp_f (by omega) (by omega) (by omega) (gLets_t (by omega))
              refine ⟨_, _, _, _, rfl, hmh118, frh118, ?_⟩
              unfold mOp
              rw [ho]
              refine ⟨rfl, ?_, (fun e => absurd (show (0 : Int) = 3 from e) (by decide)), (fun _ => ⟨rfl, rfl⟩), (fun _ => ⟨hk, rfl⟩), (fun e => absurd rfl e), rfl, rfl, rfl, rfl, rfl, rfl, rfl, rfl, rfl, rfl, rfl⟩
              exact hr9
            · refine eW_aload_n 116 rfl rfl rfl ?_
              refine eW_iconst 117 rfl rfl ?_
              refine eW_iconst 118 rfl rfl ?_
              refine eW_aload_n 119 rfl rfl rfl ?_
              refine eW_getfield 122 rfl rfl (Nat.ble_eq_true_of_le (by omega)) rfl (show h110 63 = .inr (11, [.ref 64, .ref 65, .ref 66, .ref 67, vI (s 4), vI (s 5), vI (s 6), vI 1, vI (s 8), vI (s 9), .ref 68, vI (s 11), vI (s 12), .ref 69, vI (s 14), .ref 70, .ref 71, vI (s 17), vI (s 18), vI (s 19), vI (s 20), .ref 72, vI (s 22)]) from hmh110.1) rfl ⟨rfl, fun _ h9 => nomatch h9⟩ ?_
              refine eW_bipush 124 rfl rfl 7 rfl ?_
              refine eW_iload_n 125 rfl rfl rfl ?_
              refine eW_iadd 126 rfl rfl ?_
              refine eW_iaload 127 rfl rfl (gDig G t) (Nat.ble_eq_true_of_le (by omega)) (show h110 64 = .inl (0, 62, .inl (eIA (A 0))) from hmh110.2.1) (by omega) (by omega) (by unfold i32; omega) (rR_d hr (by omega) (by omega)) ?_
              refine eW_callVH 130 [.ref 63, vI 3, vI 3, vI (gDig G t)] [] [vI 0] rfl rfl rfl rfl (Nat.ble_eq_true_of_le (by omega)) (show h110 63 = .inr (11, [.ref 64, .ref 65, .ref 66, .ref 67, vI (s 4), vI (s 5), vI (s 6), vI 1, vI (s 8), vI (s 9), .ref 68, vI (s 11), vI (s 12), .ref 69, vI (s 14), .ref 70, .ref 71, vI (s 17), vI (s 18), vI (s 19), vI (s 20), .ref 72, vI (s 22)]) from hmh110.1) rfl rfl rfl (m_refuses (d := d + 2) hmh110 hN ) rfl rfl ?_
              intro h119 fh119
              have hmh119 : mM h119 (sUp (sUp (sUp s 7 3) 8 3) 9 (gDig G t)) A := fh119.1
              have frh119 : mFr h h119 := mFr_t frh110 fh119.2
              refine eW_ret_i rfl rfl (Or.inl rfl) ?_
              have ho : oScp G p t l = (3, 3, gDig G t, G) := by
                exact oScp_3 (by omega) (by omega) (by omega) (gLets_f (by omega))
              refine ⟨_, _, _, _, rfl, hmh119, frh119, ?_⟩
              unfold mOp
              rw [ho]
              refine ⟨rfl, ?_, (fun _ => ⟨rfl, rfl⟩), (fun e => absurd rfl e), (fun e => absurd (show (3 : Int) = 0 from e) (by decide)), (fun _ => ⟨rfl, rfl, rfl⟩), rfl, rfl, rfl, rfl, rfl, rfl, rfl, rfl, rfl, rfl, rfl⟩
              exact hr
          · refine eW_iconst 94 rfl rfl ?_
            refine eW_goto rfl ?_
            refine eW_istore 100 rfl rfl [(5, vI 2), (4, vI (G.1 p.toNat)), (0, .ref 63), (1, vI p), (2, vI t), (3, vI l)] rfl rfl ?_
            refine eW_aload_n 101 rfl rfl rfl ?_
            refine eW_getfield 104 rfl rfl (Nat.ble_eq_true_of_le (by omega)) rfl (show h110 63 = .inr (11, [.ref 64, .ref 65, .ref 66, .ref 67, vI (s 4), vI (s 5), vI (s 6), vI 1, vI (s 8), vI (s 9), .ref 68, vI (s 11), vI (s 12), .ref 69, vI (s 14), .ref 70, .ref 71, vI (s 17), vI (s 18), vI (s 19), vI (s 20), .ref 72, vI (s 22)]) from hmh110.1) rfl ⟨rfl, fun _ h9 => nomatch h9⟩ ?_
            refine eW_bipush 106 rfl rfl 7 rfl ?_
            refine eW_iload_n 107 rfl rfl rfl ?_
            refine eW_iadd 108 rfl rfl ?_
            refine eW_iaload 109 rfl rfl (gDig G t) (Nat.ble_eq_true_of_le (by omega)) (show h110 64 = .inl (0, 62, .inl (eIA (A 0))) from hmh110.2.1) (by omega) (by omega) (by unfold i32; omega) (rR_d hr (by omega) (by omega)) ?_
            refine eW_iload 111 rfl rfl rfl ?_
            refine eW_iand 112 rfl rfl ((gDig G t) / 2 % 2 * 2) (eAnd2 hd.1 hd.2) ?_
            refine eW_if_ne 115 rfl rfl (by unfold i32; omega) (fun c120 => ?_) (fun c120 => ?_)
            · have hl9 : gLets (gDig G) (G.1 p.toNat) t l = true := gLets_t (by omega)
              have hM9 : gMay G (p, t, l) := ⟨⟨by show 0 ≤ p; omega, by show p < _; omega⟩, ⟨by show 1 ≤ t; omega, by show t ≤ 6; omega⟩, hl9⟩
              refine eW_aload_n 132 rfl rfl rfl ?_
              refine eW_aload_n 133 rfl rfl rfl ?_
              refine eW_getfield 136 rfl rfl (Nat.ble_eq_true_of_le (by omega)) rfl (show h110 63 = .inr (11, [.ref 64, .ref 65, .ref 66, .ref 67, vI (s 4), vI (s 5), vI (s 6), vI 1, vI (s 8), vI (s 9), .ref 68, vI (s 11), vI (s 12), .ref 69, vI (s 14), .ref 70, .ref 71, vI (s 17), vI (s 18), vI (s 19), vI (s 20), .ref 72, vI (s 22)]) from hmh110.1) rfl ⟨rfl, fun _ h9 => nomatch h9⟩ ?_
              refine eW_callVH 139 [.ref 63, .ref 64] [] [] rfl rfl rfl rfl (Nat.ble_eq_true_of_le (by omega)) (show h110 63 = .inr (11, [.ref 64, .ref 65, .ref 66, .ref 67, vI (s 4), vI (s 5), vI (s 6), vI 1, vI (s 8), vI (s 9), .ref 68, vI (s 11), vI (s 12), .ref 69, vI (s 14), .ref 70, .ref 71, vI (s 17), vI (s 18), vI (s 19), vI (s 20), .ref 72, vI (s 22)]) from hmh110.1) rfl rfl rfl (m_keeps (d := d + 1) hmh110 hN hw6 hw5) rfl rfl ?_
              intro h121 fh121
              obtain ⟨s5, K5, f9h121⟩ := fh121
              obtain ⟨f8h121, hk⟩ := f9h121
              have hmh121 : mM h121 (sUp (sUp s 5 s5) 7 0) (mUp A 1 K5) := f8h121.1
              have frh121 : mFr h h121 := mFr_t frh110 f8h121.2
              refine eW_aload_n 140 rfl rfl rfl ?_
              refine eW_iload_n 141 rfl rfl rfl ?_
              refine eW_iload_n 142 rfl rfl rfl ?_
              refine eW_iload_n 143 rfl rfl rfl ?_
              refine eW_callVH 146 [.ref 63, vI p, vI t, vI l] [] [] rfl rfl rfl rfl (Nat.ble_eq_true_of_le (by omega)) (show h121 63 = .inr (11, [.ref 64, .ref 65, .ref 66, .ref 67, vI (s 4), vI s5, vI (s 6), vI 0, vI (s 8), vI (s 9), .ref 68, vI (s 11), vI (s 12), .ref 69, vI (s 14), .ref 70, .ref 71, vI (s 17), vI (s 18), vI (s 19), vI (s 20), .ref 72, vI (s 22)]) from hmh121.1) rfl rfl rfl (m_takes (d := d + 1) hmh121 hN hr hI hM9) rfl rfl ?_
              intro h122 fh122
              obtain ⟨g9, f9h122⟩ := fh122
              obtain ⟨f8h122, hr9⟩ := f9h122
              have hmh122 : mM h122 (sUp (sUp s 5 s5) 7 0) (mUp (mUp A 0 g9) 1 K5) := f8h122.1
              have frh122 : mFr h h122 := mFr_t frh121 f8h122.2
              refine eW_aload_n 147 rfl rfl rfl ?_
              refine eW_getfield 150 rfl rfl (Nat.ble_eq_true_of_le (by omega)) rfl (show h122 63 = .inr (11, [.ref 64, .ref 65, .ref 66, .ref 67, vI (s 4), vI s5, vI (s 6), vI 0, vI (s 8), vI (s 9), .ref 68, vI (s 11), vI (s 12), .ref 69, vI (s 14), .ref 70, .ref 71, vI (s 17), vI (s 18), vI (s 19), vI (s 20), .ref 72, vI (s 22)]) from hmh122.1) rfl ⟨rfl, fun _ h9 => nomatch h9⟩ ?_
              refine eW_iconst 151 rfl rfl ?_
              refine eW_iaload 152 rfl rfl ((gMake G (p, t, l)).2.2.2.1) (Nat.ble_eq_true_of_le (by omega)) (show h122 64 = .inl (0, 62, .inl (eIA g9)) from hmh122.2.1) (by omega) (by omega) (by unfold i32; omega) (congrArg Int32.ofInt hr9.1) ?_
              refine eW_ret_i rfl rfl (Or.inl rfl) ?_
              have ho : oScp G p t l = (0, 0, 0, gMake G (p, t, l)) := by
                exact oScp_f (by omega) (by omega) (by omega) (gLets_t (by omega))
              refine ⟨_, _, _, _, rfl, hmh122, frh122, ?_⟩
              unfold mOp
              rw [ho]
              refine ⟨rfl, ?_, (fun e => absurd (show (0 : Int) = 3 from e) (by decide)), (fun _ => ⟨rfl, rfl⟩), (fun _ => ⟨hk, rfl⟩), (fun e => absurd rfl e), rfl, rfl, rfl, rfl, rfl, rfl, rfl, rfl, rfl, rfl, rfl⟩
              exact hr9
            · refine eW_aload_n 116 rfl rfl rfl ?_
              refine eW_iconst 117 rfl rfl ?_
              refine eW_iconst 118 rfl rfl ?_
              refine eW_aload_n 119 rfl rfl rfl ?_
              refine eW_getfield 122 rfl rfl (Nat.ble_eq_true_of_le (by omega)) rfl (show h110 63 = .inr (11, [.ref 64, .ref 65, .ref 66, .ref 67, vI (s 4), vI (s 5), vI (s 6), vI 1, vI (s 8), vI (s 9), .ref 68, vI (s 11), vI (s 12), .ref 69, vI (s 14), .ref 70, .ref 71, vI (s 17), vI (s 18), vI (s 19), vI (s 20), .ref 72, vI (s 22)]) from hmh110.1) rfl ⟨rfl, fun _ h9 => nomatch h9⟩ ?_
              refine eW_bipush 124 rfl rfl 7 rfl ?_
              refine eW_iload_n 125 rfl rfl rfl ?_
              refine eW_iadd 126 rfl rfl ?_
              refine eW_iaload 127 rfl rfl (gDig G t) (Nat.ble_eq_true_of_le (by omega)) (show h110 64 = .inl (0, 62, .inl (eIA (A 0))) from hmh110.2.1) (by omega) (by omega) (by unfold i32; omega) (rR_d hr (by omega) (by omega)) ?_
              refine eW_callVH 130 [.ref 63, vI 3, vI 3, vI (gDig G t)] [] [vI 0] rfl rfl rfl rfl (Nat.ble_eq_true_of_le (by omega)) (show h110 63 = .inr (11, [.ref 64, .ref 65, .ref 66, .ref 67, vI (s 4), vI (s 5), vI (s 6), vI 1, vI (s 8), vI (s 9), .ref 68, vI (s 11), vI (s 12), .ref 69, vI (s 14), .ref 70, .ref 71, vI (s 17), vI (s 18), vI (s 19), vI (s 20), .ref 72, vI (s 22)]) from hmh110.1) rfl rfl rfl (m_refuses (d := d + 2) hmh110 hN ) rfl rfl ?_
              intro h123 fh123
              have hmh123 : mM h123 (sUp (sUp (sUp s 7 3) 8 3) 9 (gDig G t)) A := fh123.1
              have frh123 : mFr h h123 := mFr_t frh110 fh123.2
              refine eW_ret_i rfl rfl (Or.inl rfl) ?_
              have ho : oScp G p t l = (3, 3, gDig G t, G) := by
                exact oScp_3 (by omega) (by omega) (by omega) (gLets_f (by omega))
              refine ⟨_, _, _, _, rfl, hmh123, frh123, ?_⟩
              unfold mOp
              rw [ho]
              refine ⟨rfl, ?_, (fun _ => ⟨rfl, rfl⟩), (fun e => absurd rfl e), (fun e => absurd (show (3 : Int) = 0 from e) (by decide)), (fun _ => ⟨rfl, rfl, rfl⟩), rfl, rfl, rfl, rfl, rfl, rfl, rfl, rfl, rfl, rfl, rfl⟩
              exact hr
        · refine eW_iconst 82 rfl rfl ?_
          refine eW_goto rfl ?_
          refine eW_istore 100 rfl rfl [(5, vI 1), (4, vI (G.1 p.toNat)), (0, .ref 63), (1, vI p), (2, vI t), (3, vI l)] rfl rfl ?_
          refine eW_aload_n 101 rfl rfl rfl ?_
          refine eW_getfield 104 rfl rfl (Nat.ble_eq_true_of_le (by omega)) rfl (show h110 63 = .inr (11, [.ref 64, .ref 65, .ref 66, .ref 67, vI (s 4), vI (s 5), vI (s 6), vI 1, vI (s 8), vI (s 9), .ref 68, vI (s 11), vI (s 12), .ref 69, vI (s 14), .ref 70, .ref 71, vI (s 17), vI (s 18), vI (s 19), vI (s 20), .ref 72, vI (s 22)]) from hmh110.1) rfl ⟨rfl, fun _ h9 => nomatch h9⟩ ?_
          refine eW_bipush 106 rfl rfl 7 rfl ?_
          refine eW_iload_n 107 rfl rfl rfl ?_
          refine eW_iadd 108 rfl rfl ?_
          refine eW_iaload 109 rfl rfl (gDig G t) (Nat.ble_eq_true_of_le (by omega)) (show h110 64 = .inl (0, 62, .inl (eIA (A 0))) from hmh110.2.1) (by omega) (by omega) (by unfold i32; omega) (rR_d hr (by omega) (by omega)) ?_
          refine eW_iload 111 rfl rfl rfl ?_
          refine eW_iand 112 rfl rfl ((gDig G t) % 2) (eAnd1 hd.1 hd.2) ?_
          refine eW_if_ne 115 rfl rfl (by unfold i32; omega) (fun c124 => ?_) (fun c124 => ?_)
          · have hl9 : gLets (gDig G) (G.1 p.toNat) t l = true := gLets_t (by omega)
            have hM9 : gMay G (p, t, l) := ⟨⟨by show 0 ≤ p; omega, by show p < _; omega⟩, ⟨by show 1 ≤ t; omega, by show t ≤ 6; omega⟩, hl9⟩
            refine eW_aload_n 132 rfl rfl rfl ?_
            refine eW_aload_n 133 rfl rfl rfl ?_
            refine eW_getfield 136 rfl rfl (Nat.ble_eq_true_of_le (by omega)) rfl (show h110 63 = .inr (11, [.ref 64, .ref 65, .ref 66, .ref 67, vI (s 4), vI (s 5), vI (s 6), vI 1, vI (s 8), vI (s 9), .ref 68, vI (s 11), vI (s 12), .ref 69, vI (s 14), .ref 70, .ref 71, vI (s 17), vI (s 18), vI (s 19), vI (s 20), .ref 72, vI (s 22)]) from hmh110.1) rfl ⟨rfl, fun _ h9 => nomatch h9⟩ ?_
            refine eW_callVH 139 [.ref 63, .ref 64] [] [] rfl rfl rfl rfl (Nat.ble_eq_true_of_le (by omega)) (show h110 63 = .inr (11, [.ref 64, .ref 65, .ref 66, .ref 67, vI (s 4), vI (s 5), vI (s 6), vI 1, vI (s 8), vI (s 9), .ref 68, vI (s 11), vI (s 12), .ref 69, vI (s 14), .ref 70, .ref 71, vI (s 17), vI (s 18), vI (s 19), vI (s 20), .ref 72, vI (s 22)]) from hmh110.1) rfl rfl rfl (m_keeps (d := d + 1) hmh110 hN hw6 hw5) rfl rfl ?_
            intro h125 fh125
            obtain ⟨s5, K5, f9h125⟩ := fh125
            obtain ⟨f8h125, hk⟩ := f9h125
            have hmh125 : mM h125 (sUp (sUp s 5 s5) 7 0) (mUp A 1 K5) := f8h125.1
            have frh125 : mFr h h125 := mFr_t frh110 f8h125.2
            refine eW_aload_n 140 rfl rfl rfl ?_
            refine eW_iload_n 141 rfl rfl rfl ?_
            refine eW_iload_n 142 rfl rfl rfl ?_
            refine eW_iload_n 143 rfl rfl rfl ?_
            refine eW_callVH 146 [.ref 63, vI p, vI t, vI l] [] [] rfl rfl rfl rfl (Nat.ble_eq_true_of_le (by omega)) (show h125 63 = .inr (11, [.ref 64, .ref 65, .ref 66, .ref 67, vI (s 4), vI s5, vI (s 6), vI 0, vI (s 8), vI (s 9), .ref 68, vI (s 11), vI (s 12), .ref 69, vI (s 14), .ref 70, .ref 71, vI (s 17), vI (s 18), vI (s 19), vI (s 20), .ref 72, vI (s 22)]) from hmh125.1) rfl rfl rfl (m_takes (d := d + 1) hmh125 hN hr hI hM9) rfl rfl ?_
            intro h126 fh126
            obtain ⟨g9, f9h126⟩ := fh126
            obtain ⟨f8h126, hr9⟩ := f9h126
            have hmh126 : mM h126 (sUp (sUp s 5 s5) 7 0) (mUp (mUp A 0 g9) 1 K5) := f8h126.1
            have frh126 : mFr h h126 := mFr_t frh125 f8h126.2
            refine eW_aload_n 147 rfl rfl rfl ?_
            refine eW_getfield 150 rfl rfl (Nat.ble_eq_true_of_le (by omega)) rfl (show h126 63 = .inr (11, [.ref 64, .ref 65, .ref 66, .ref 67, vI (s 4), vI s5, vI (s 6), vI 0, vI (s 8), vI (s 9), .ref 68, vI (s 11), vI (s 12), .ref 69, vI (s 14), .ref 70, .ref 71, vI (s 17), vI (s 18), vI (s 19), vI (s 20), .ref 72, vI (s 22)]) from hmh126.1) rfl ⟨rfl, fun _ h9 => nomatch h9⟩ ?_
            refine eW_iconst 151 rfl rfl ?_
            refine eW_iaload 152 rfl rfl ((gMake G (p, t, l)).2.2.2.1) (Nat.ble_eq_true_of_le (by omega)) (show h126 64 = .inl (0, 62, .inl (eIA g9)) from hmh126.2.1) (by omega) (by omega) (by unfold i32; omega) (congrArg Int32.ofInt hr9.1) ?_
            refine eW_ret_i rfl rfl (Or.inl rfl) ?_
            have ho : oScp G p t l = (0, 0, 0, gMake G (p, t, l)) := by
              exact oScp_f (by omega) (by omega) (by omega) (gLets_t (by omega))
            refine ⟨_, _, _, _, rfl, hmh126, frh126, ?_⟩
            unfold mOp
            rw [ho]
            refine ⟨rfl, ?_, (fun e => absurd (show (0 : Int) = 3 from e) (by decide)), (fun _ => ⟨rfl, rfl⟩), (fun _ => ⟨hk, rfl⟩), (fun e => absurd rfl e), rfl, rfl, rfl, rfl, rfl, rfl, rfl, rfl, rfl, rfl, rfl⟩
            exact hr9
          · refine eW_aload_n 116 rfl rfl rfl ?_
            refine eW_iconst 117 rfl rfl ?_
            refine eW_iconst 118 rfl rfl ?_
            refine eW_aload_n 119 rfl rfl rfl ?_
            refine eW_getfield 122 rfl rfl (Nat.ble_eq_true_of_le (by omega)) rfl (show h110 63 = .inr (11, [.ref 64, .ref 65, .ref 66, .ref 67, vI (s 4), vI (s 5), vI (s 6), vI 1, vI (s 8), vI (s 9), .ref 68, vI (s 11), vI (s 12), .ref 69, vI (s 14), .ref 70, .ref 71, vI (s 17), vI (s 18), vI (s 19), vI (s 20), .ref 72, vI (s 22)]) from hmh110.1) rfl ⟨rfl, fun _ h9 => nomatch h9⟩ ?_
            refine eW_bipush 124 rfl rfl 7 rfl ?_
            refine eW_iload_n 125 rfl rfl rfl ?_
            refine eW_iadd 126 rfl rfl ?_
            refine eW_iaload 127 rfl rfl (gDig G t) (Nat.ble_eq_true_of_le (by omega)) (show h110 64 = .inl (0, 62, .inl (eIA (A 0))) from hmh110.2.1) (by omega) (by omega) (by unfold i32; omega) (rR_d hr (by omega) (by omega)) ?_
            refine eW_callVH 130 [.ref 63, vI 3, vI 3, vI (gDig G t)] [] [vI 0] rfl rfl rfl rfl (Nat.ble_eq_true_of_le (by omega)) (show h110 63 = .inr (11, [.ref 64, .ref 65, .ref 66, .ref 67, vI (s 4), vI (s 5), vI (s 6), vI 1, vI (s 8), vI (s 9), .ref 68, vI (s 11), vI (s 12), .ref 69, vI (s 14), .ref 70, .ref 71, vI (s 17), vI (s 18), vI (s 19), vI (s 20), .ref 72, vI (s 22)]) from hmh110.1) rfl rfl rfl (m_refuses (d := d + 2) hmh110 hN ) rfl rfl ?_
            intro h127 fh127
            have hmh127 : mM h127 (sUp (sUp (sUp s 7 3) 8 3) 9 (gDig G t)) A := fh127.1
            have frh127 : mFr h h127 := mFr_t frh110 fh127.2
            refine eW_ret_i rfl rfl (Or.inl rfl) ?_
            have ho : oScp G p t l = (3, 3, gDig G t, G) := by
              exact oScp_3 (by omega) (by omega) (by omega) (gLets_f (by omega))
            refine ⟨_, _, _, _, rfl, hmh127, frh127, ?_⟩
            unfold mOp
            rw [ho]
            refine ⟨rfl, ?_, (fun _ => ⟨rfl, rfl⟩), (fun e => absurd rfl e), (fun e => absurd (show (3 : Int) = 0 from e) (by decide)), (fun _ => ⟨rfl, rfl, rfl⟩), rfl, rfl, rfl, rfl, rfl, rfl, rfl, rfl, rfl, rfl, rfl⟩
            exact hr
      · refine eW_aload_n 69 rfl rfl rfl ?_
        refine eW_iconst 70 rfl rfl ?_
        refine eW_iconst 71 rfl rfl ?_
        refine eW_iload 73 rfl rfl rfl ?_
        refine eW_callVH 76 [.ref 63, vI 3, vI 2, vI (G.1 p.toNat)] [] [vI 0] rfl rfl rfl rfl (Nat.ble_eq_true_of_le (by omega)) (show h110 63 = .inr (11, [.ref 64, .ref 65, .ref 66, .ref 67, vI (s 4), vI (s 5), vI (s 6), vI 1, vI (s 8), vI (s 9), .ref 68, vI (s 11), vI (s 12), .ref 69, vI (s 14), .ref 70, .ref 71, vI (s 17), vI (s 18), vI (s 19), vI (s 20), .ref 72, vI (s 22)]) from hmh110.1) rfl rfl rfl (m_refuses (d := d + 2) hmh110 hN ) rfl rfl ?_
        intro h128 fh128
        have hmh128 : mM h128 (sUp (sUp (sUp s 7 3) 8 2) 9 (G.1 p.toNat)) A := fh128.1
        have frh128 : mFr h h128 := mFr_t frh110 fh128.2
        refine eW_ret_i rfl rfl (Or.inl rfl) ?_
        have ho : oScp G p t l = (3, 2, G.1 p.toNat, G) := by
          exact oScp_2 (by omega) (by omega) (by omega)
        refine ⟨_, _, _, _, rfl, hmh128, frh128, ?_⟩
        unfold mOp
        rw [ho]
        refine ⟨rfl, ?_, (fun _ => ⟨rfl, rfl⟩), (fun e => absurd rfl e), (fun e => absurd (show (3 : Int) = 0 from e) (by decide)), (fun _ => ⟨rfl, rfl, rfl⟩), rfl, rfl, rfl, rfl, rfl, rfl, rfl, rfl, rfl, rfl, rfl⟩
        exact hr
    · refine eW_iconst 52 rfl rfl ?_
      refine eW_ret_i rfl rfl (Or.inl rfl) ?_
      have ho : oScp G p t l = (1, 0, 0, G) := by
        exact oScp_p (by omega)
      refine ⟨_, _, _, _, rfl, hmh110, frh110, ?_⟩
      unfold mOp
      rw [ho]
      refine ⟨rfl, ?_, (fun e => absurd (show (1 : Int) = 3 from e) (by decide)), (fun _ => ⟨rfl, rfl⟩), (fun e => absurd (show (1 : Int) = 0 from e) (by decide)), (fun _ => ⟨rfl, rfl, rfl⟩), rfl, rfl, rfl, rfl, rfl, rfl, rfl, rfl, rfl, rfl, rfl⟩
      exact hr
theorem oPly_n {G : eGd} (h : gTd G = none) : oPly G = (1, 0, 0, G) := by unfold oPly; rw [h]
theorem oPly_s {G : eGd} {S : Int × Int × Int} (h : gTd G = some S) : oPly G = (0, 0, 0, gMake G S) := by unfold oPly; rw [h]
def oPlyV (G : eGd) : Int := (oPly G).2.2.2.2.2.2.1
theorem oPlyV_s {G : eGd} {S : Int × Int × Int} (h : gTd G = some S) : (gMake G S).2.2.2.1 = oPlyV G := by unfold oPlyV; rw [oPly_s h]
theorem m_play {d N : Nat} {h : eHp} {s : Nat → Int} {A : Nat → Nat → Int} (hm : mM h s A) (hN : 75 ≤ N) {c : Int} {G : eGd} (hr : rR G (A 0)) (hI : gI c G) (hw6 : s 6 = 0 ∨ s 6 = 1) (hw5 : 0 ≤ s 5 ∧ s 5 ≤ 8) : eSp (d + 5) eM_X7_play [.ref 63] N h (mOpQ (oPly G) cSc (oPlyV G) s A h N) := by
  refine eSp_of [(0, .ref 63)] rfl rfl ?_
  have hG := hI.1
  have hG9 := hG
  obtain ⟨g1, g2, g3, g4⟩ := hG9
  refine eW_aload_n 1 rfl rfl rfl ?_
  refine eW_aload_n 2 rfl rfl rfl ?_
  have hgy := gYes_c (gTd G)
  refine eW_callVH 5 [.ref 63] [.ref 63] [vI (gYes (gTd G)), .ref 63] rfl rfl rfl rfl (Nat.ble_eq_true_of_le (by omega)) hm.1 rfl rfl rfl (m_isTold (d := d + 0) hm hN hr hI) rfl rfl ?_
  intro h1 fh1
  obtain ⟨V1, F1, a1, b1, c1, f9h1⟩ := fh1
  obtain ⟨f8h1, hfx⟩ := f9h1
  have hmh1 : mM h1 (sUp (sUp (sUp s 17 a1) 18 b1) 19 c1) (mUp (mUp A 6 V1) 7 F1) := f8h1.1
  have frh1 : mFr h h1 := mFr_t (fun _ _ => rfl) f8h1.2
  refine eW_if_eq 8 rfl rfl (by unfold i32; omega) (fun c2 => ?_) (fun c2 => ?_)
  · refine eW_iconst 13 rfl rfl ?_
    have hflq3 := eD_c ((0 : Int) < 1)
    refine eW_callVH 16 [.ref 63, vI 1] [] [vI (eB01 (decide ((0 : Int) < 1)))] rfl rfl rfl rfl (Nat.ble_eq_true_of_le (by omega)) (show h1 63 = .inr (11, [.ref 64, .ref 65, .ref 66, .ref 67, vI (s 4), vI (s 5), vI (s 6), vI (s 7), vI (s 8), vI (s 9), .ref 68, vI (s 11), vI (s 12), .ref 69, vI (s 14), .ref 70, .ref 71, vI a1, vI b1, vI c1, vI (s 20), .ref 72, vI (s 22)]) from hmh1.1) rfl rfl rfl (m_fails (d := d + 3) hmh1 hN (by unfold i32; omega)) rfl rfl ?_
    intro h4 fh4
    have hmh4 : mM h4 (sUp (sUp (sUp (sUp s 7 1) 17 a1) 18 b1) 19 c1) (mUp (mUp A 6 V1) 7 F1) := fh4.1
    have frh4 : mFr h h4 := mFr_t frh1 fh4.2
    refine eW_if_eq 19 rfl rfl (by unfold i32; omega) (fun c5 => absurd c5 (by omega)) (fun c5 => ?_)
    refine eW_iconst 20 rfl rfl ?_
    refine eW_ret_i rfl rfl (Or.inl rfl) ?_
    have hn9 : gTd G = none := by rcases hgy with ⟨_, e⟩ | ⟨e, _⟩; exact e; exact absurd e (by omega)
    have ho : oPly G = (1, 0, 0, G) := by
      exact oPly_n hn9
    refine ⟨_, _, _, _, rfl, hmh4, frh4, ?_⟩
    unfold mOp
    rw [ho]
    refine ⟨rfl, ?_, (fun e => absurd (show (1 : Int) = 3 from e) (by decide)), (fun _ => ⟨rfl, rfl⟩), (fun e => absurd (show (1 : Int) = 0 from e) (by decide)), (fun _ => ⟨rfl, rfl, rfl⟩), rfl, rfl, rfl, rfl, rfl, rfl, rfl, rfl, rfl, rfl, rfl⟩
    exact hr
  · refine eW_iconst 9 rfl rfl ?_
    refine eW_goto rfl ?_
    have hflq6 := eD_c ((0 : Int) < 0)
    refine eW_callVH 16 [.ref 63, vI 0] [] [vI (eB01 (decide ((0 : Int) < 0)))] rfl rfl rfl rfl (Nat.ble_eq_true_of_le (by omega)) (show h1 63 = .inr (11, [.ref 64, .ref 65, .ref 66, .ref 67, vI (s 4), vI (s 5), vI (s 6), vI (s 7), vI (s 8), vI (s 9), .ref 68, vI (s 11), vI (s 12), .ref 69, vI (s 14), .ref 70, .ref 71, vI a1, vI b1, vI c1, vI (s 20), .ref 72, vI (s 22)]) from hmh1.1) rfl rfl rfl (m_fails (d := d + 3) hmh1 hN (by unfold i32; omega)) rfl rfl ?_
    intro h7 fh7
    have hmh7 : mM h7 (sUp (sUp (sUp (sUp s 7 0) 17 a1) 18 b1) 19 c1) (mUp (mUp A 6 V1) 7 F1) := fh7.1
    have frh7 : mFr h h7 := mFr_t frh1 fh7.2
    refine eW_if_eq 19 rfl rfl (by unfold i32; omega) (fun c8 => ?_) (fun c8 => absurd c8 (by omega))
    obtain ⟨y9, hy9⟩ : ∃ u, gTd G = some u := by rcases hgy with ⟨e, _⟩ | ⟨_, e⟩; exact absurd e (by omega); exact e
    have hye := hfx _ hy9
    rw [hye] at hy9
    have hM9 : gMay G (a1, b1, c1) := by have := (gTd_mem g1 hy9).1; exact ⟨⟨this.1, this.2.1⟩, ⟨this.2.2.1, this.2.2.2.1⟩, this.2.2.2.2⟩
    refine eW_aload_n 22 rfl rfl rfl ?_
    refine eW_aload_n 23 rfl rfl rfl ?_
    refine eW_getfield 26 rfl rfl (Nat.ble_eq_true_of_le (by omega)) rfl (show h7 63 = .inr (11, [.ref 64, .ref 65, .ref 66, .ref 67, vI (s 4), vI (s 5), vI (s 6), vI 0, vI (s 8), vI (s 9), .ref 68, vI (s 11), vI (s 12), .ref 69, vI (s 14), .ref 70, .ref 71, vI a1, vI b1, vI c1, vI (s 20), .ref 72, vI (s 22)]) from hmh7.1) rfl ⟨rfl, fun _ h9 => nomatch h9⟩ ?_
    refine eW_callVH 29 [.ref 63, .ref 64] [] [] rfl rfl rfl rfl (Nat.ble_eq_true_of_le (by omega)) (show h7 63 = .inr (11, [.ref 64, .ref 65, .ref 66, .ref 67, vI (s 4), vI (s 5), vI (s 6), vI 0, vI (s 8), vI (s 9), .ref 68, vI (s 11), vI (s 12), .ref 69, vI (s 14), .ref 70, .ref 71, vI a1, vI b1, vI c1, vI (s 20), .ref 72, vI (s 22)]) from hmh7.1) rfl rfl rfl (m_keeps (d := d + 2) hmh7 hN hw6 hw5) rfl rfl ?_
    intro h9 fh9
    obtain ⟨s5, K5, f9h9⟩ := fh9
    obtain ⟨f8h9, hk⟩ := f9h9
    have hmh9 : mM h9 (sUp (sUp (sUp (sUp (sUp s 5 s5) 7 0) 17 a1) 18 b1) 19 c1) (mUp (mUp (mUp A 1 K5) 6 V1) 7 F1) := f8h9.1
    have frh9 : mFr h h9 := mFr_t frh7 f8h9.2
    refine eW_aload_n 30 rfl rfl rfl ?_
    refine eW_aload_n 31 rfl rfl rfl ?_
    refine eW_getfield 34 rfl rfl (Nat.ble_eq_true_of_le (by omega)) rfl (show h9 63 = .inr (11, [.ref 64, .ref 65, .ref 66, .ref 67, vI (s 4), vI s5, vI (s 6), vI 0, vI (s 8), vI (s 9), .ref 68, vI (s 11), vI (s 12), .ref 69, vI (s 14), .ref 70, .ref 71, vI a1, vI b1, vI c1, vI (s 20), .ref 72, vI (s 22)]) from hmh9.1) rfl ⟨rfl, fun _ h9 => nomatch h9⟩ ?_
    refine eW_aload_n 35 rfl rfl rfl ?_
    refine eW_getfield 38 rfl rfl (Nat.ble_eq_true_of_le (by omega)) rfl (show h9 63 = .inr (11, [.ref 64, .ref 65, .ref 66, .ref 67, vI (s 4), vI s5, vI (s 6), vI 0, vI (s 8), vI (s 9), .ref 68, vI (s 11), vI (s 12), .ref 69, vI (s 14), .ref 70, .ref 71, vI a1, vI b1, vI c1, vI (s 20), .ref 72, vI (s 22)]) from hmh9.1) rfl ⟨rfl, fun _ h9 => nomatch h9⟩ ?_
    refine eW_aload_n 39 rfl rfl rfl ?_
    refine eW_getfield 42 rfl rfl (Nat.ble_eq_true_of_le (by omega)) rfl (show h9 63 = .inr (11, [.ref 64, .ref 65, .ref 66, .ref 67, vI (s 4), vI s5, vI (s 6), vI 0, vI (s 8), vI (s 9), .ref 68, vI (s 11), vI (s 12), .ref 69, vI (s 14), .ref 70, .ref 71, vI a1, vI b1, vI c1, vI (s 20), .ref 72, vI (s 22)]) from hmh9.1) rfl ⟨rfl, fun _ h9 => nomatch h9⟩ ?_
    refine eW_callVH 45 [.ref 63, vI a1, vI b1, vI c1] [] [] rfl rfl rfl rfl (Nat.ble_eq_true_of_le (by omega)) (show h9 63 = .inr (11, [.ref 64, .ref 65, .ref 66, .ref 67, vI (s 4), vI s5, vI (s 6), vI 0, vI (s 8), vI (s 9), .ref 68, vI (s 11), vI (s 12), .ref 69, vI (s 14), .ref 70, .ref 71, vI a1, vI b1, vI c1, vI (s 20), .ref 72, vI (s 22)]) from hmh9.1) rfl rfl rfl (m_takes (d := d + 2) hmh9 hN hr hI hM9) rfl rfl ?_
    intro h10 fh10
    obtain ⟨g9, f9h10⟩ := fh10
    obtain ⟨f8h10, hr9⟩ := f9h10
    have hmh10 : mM h10 (sUp (sUp (sUp (sUp (sUp s 5 s5) 7 0) 17 a1) 18 b1) 19 c1) (mUp (mUp (mUp (mUp A 0 g9) 1 K5) 6 V1) 7 F1) := f8h10.1
    have frh10 : mFr h h10 := mFr_t frh9 f8h10.2
    refine eW_aload_n 46 rfl rfl rfl ?_
    refine eW_getfield 49 rfl rfl (Nat.ble_eq_true_of_le (by omega)) rfl (show h10 63 = .inr (11, [.ref 64, .ref 65, .ref 66, .ref 67, vI (s 4), vI s5, vI (s 6), vI 0, vI (s 8), vI (s 9), .ref 68, vI (s 11), vI (s 12), .ref 69, vI (s 14), .ref 70, .ref 71, vI a1, vI b1, vI c1, vI (s 20), .ref 72, vI (s 22)]) from hmh10.1) rfl ⟨rfl, fun _ h9 => nomatch h9⟩ ?_
    refine eW_iconst 50 rfl rfl ?_
    refine eW_iaload 51 rfl rfl ((gMake G (a1, b1, c1)).2.2.2.1) (Nat.ble_eq_true_of_le (by omega)) (show h10 64 = .inl (0, 62, .inl (eIA g9)) from hmh10.2.1) (by omega) (by omega) (by unfold i32; omega) (congrArg Int32.ofInt hr9.1) ?_
    refine eW_ret_i rfl rfl (Or.inl rfl) ?_
    have ho : oPly G = (0, 0, 0, gMake G (a1, b1, c1)) := by
      exact oPly_s hy9
    refine ⟨_, _, _, _, rfl, hmh10, frh10, ?_⟩
    unfold mOp
    rw [ho]
    refine ⟨rfl, ?_, (fun e => absurd (show (0 : Int) = 3 from e) (by decide)), (fun _ => ⟨rfl, rfl⟩), (fun _ => ⟨hk, oPlyV_s hy9⟩), (fun e => absurd rfl e), rfl, rfl, rfl, rfl, rfl, rfl, rfl, rfl, rfl, rfl, rfl⟩
    exact hr9
