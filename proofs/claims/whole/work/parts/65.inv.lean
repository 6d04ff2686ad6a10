/-! the law's invariant: all names are closed; class and model are in step -/
theorem eClE_obj {N : Nat} {c : Nat} {fs : List Value} (h : ∀ v ∈ fs, eClV N v = true) : eClE N (.inr (c, fs)) = true := List.all_eq_true.mpr h
theorem gG_cl {h : eHp} {g N : Nat} {G : eGd} (hg : gG h g G) (hN : g + 4 ≤ N) (i : Nat) (h1 : g ≤ i) (h2 : i ≤ g + 3) : eClE N (h i) = true := by
  obtain ⟨a, b, c, d⟩ := hg
  rcases (show i = g ∨ i = g + 1 ∨ i = g + 2 ∨ i = g + 3 by omega) with e | e | e | e <;> subst e
  · rw [a]
    simp only [eClE, List.all_cons, List.all_nil, eClV, Bool.and_true, Bool.and_eq_true, Nat.ble_eq]; omega
  · rw [b]; rfl
  · rw [c]; rfl
  · rw [d]; rfl
theorem gH_cl {h : eHp} {N : Nat} {a z : Int} {Ks : Nat → eGd} (hh : gH h 13 a z Ks) (hN : 75 ≤ N) (i : Nat) (h1 : 13 ≤ i) (h2 : i ≤ 46) : eClE N (h i) = true := by
  obtain ⟨p, ⟨f, q, q2⟩, r⟩ := hh
  by_cases e1 : i = 13
  · subst e1; rw [p]
    simp only [eClE, List.all_cons, List.all_nil, eClV, Bool.and_true, Nat.ble_eq]; omega
  · by_cases e2 : i = 14
    · subst e2; rw [q]
      refine List.all_eq_true.mpr (fun j hj => ?_)
      have hj := List.mem_range.mp hj
      rw [q2 j hj]
      exact Nat.ble_eq_true_of_le (by omega)
    · exact gG_cl (r ((i - 15) / 4) (by omega)) (by omega) i (by omega) (by omega)
/-- the names that neither class nor model tells of -/
def bC (g : Nat) (h : eHp) : Prop := ∀ i, (i = 61 ∨ i = 62 ∨ 75 ≤ i) → i < 75 + g → eClE (75 + g) (h i) = true
/-- the law's own two rows -/
def lO (h : eHp) : Prop := ∃ (F : Nat → Int64) (f : Nat → UInt64), h 73 = .inl (4, 1, .inr (.inl F)) ∧ h 74 = .inl (6, 1, .inr (.inr (.inr (.inl f))))
theorem bC_k {g : Nat} {h h' : eHp} (hb : bC g h) (o : ∀ i, (i = 61 ∨ i = 62 ∨ 75 ≤ i) → h' i = h i) : bC g h' := fun i hi hl => by rw [o i hi]; exact hb i hi hl
theorem bC_of {g : Nat} {h : eHp} (hc : eClH (75 + g) h = true) : bC g h := fun i _ hl => List.all_eq_true.mp hc i (List.mem_range.mpr hl)
theorem bW_k {g : Nat} {L : List Int} {h h' : eHp} (hb : bW h g L) (o : ∀ i, (i = 61 ∨ i = 62 ∨ 75 ≤ i) → h' i = h i) : bW h' g L := by
  obtain ⟨b, B, ml, b1, b2, b3, b4, b5, b6, b7, b8, b9⟩ := hb
  exact ⟨b, B, ml, (o _ (by omega)).trans b1, (o _ (by omega)).trans b2, b3, b4, b5, b6, b7, b8, fun i h1 h2 => by rw [o i (by omega)]; exact b9 i h1 h2⟩
theorem lO_k {h h' : eHp} (hb : lO h) (o3 : h' 73 = h 73) (o4 : h' 74 = h 74) : lO h' := by
  obtain ⟨F, f, a, b⟩ := hb
  exact ⟨F, f, o3.trans a, o4.trans b⟩
/-- all names are closed -/
theorem clos {g : Nat} {h : eHp} {X : eXs} {G O Q : eGd} {a z : Int} {Ks : Nat → eGd} {V : eVs} {S : Int × Int × Int} {T : eTx} {s : Nat → Int} {A : Nat → Nat → Int} (hw : cW h X G O Q a z Ks V S T) (hm : mM h s A) (ho : lO h) (hb : bC g h) : eClH (75 + g) h = true := by
  refine List.all_eq_true.mpr (fun i hi => ?_)
  have hi := List.mem_range.mp hi
  obtain ⟨w1, w2, w3, w4, w5, w6, w7, w8, w9⟩ := hw
  obtain ⟨F, f, o3, o4⟩ := ho
  by_cases e0 : i = 61 ∨ i = 62 ∨ 75 ≤ i
  · exact hb i e0 hi
  by_cases e1 : i = 0
  · subst e1
    rw [show h 0 = _ from w1]
    simp only [eClE, List.all_cons, List.all_nil, eClV, Bool.and_true, Bool.and_eq_true, Nat.ble_eq]; omega
  by_cases e2 : i ≤ 4
  · exact gG_cl w2 (by omega) i (by omega) (by omega)
  by_cases e3 : i ≤ 8
  · exact gG_cl w3 (by omega) i (by omega) (by omega)
  by_cases e4 : i ≤ 12
  · exact gG_cl w4 (by omega) i (by omega) (by omega)
  by_cases e5 : i ≤ 46
  · exact gH_cl w5 (by omega) i (by omega) e5
  by_cases e6 : i ≤ 52
  · obtain ⟨v1, v2, v3, v4, v5, v6⟩ := w6
    rcases (show i = 47 ∨ i = 48 ∨ i = 49 ∨ i = 50 ∨ i = 51 ∨ i = 52 by omega) with e | e | e | e | e | e <;> subst e
    · rw [v1]
      simp only [eClE, List.all_cons, List.all_nil, eClV, Bool.and_true, Bool.and_eq_true, Nat.ble_eq]; omega
    · rw [v2]; rfl
    · rw [v3]; rfl
    · rw [v4]; rfl
    · rw [v5]; rfl
    · rw [v6]; rfl
  by_cases e7 : i ≤ 55
  · obtain ⟨cr, wn, tr, v1, v2, v3⟩ := w9
    rcases (show i = 53 ∨ i = 54 ∨ i = 55 by omega) with e | e | e <;> subst e
    · rw [v1]
      simp only [eClE, List.all_cons, List.all_nil, eClV, Bool.and_true, Bool.and_eq_true, Nat.ble_eq]; omega
    · rw [v2]; rfl
    · rw [v3]; rfl
  by_cases e8 : i = 56
  · subst e8; rw [show h 56 = _ from w7]; rfl
  by_cases e9 : i ≤ 60
  · obtain ⟨v1, v2, v3, v4⟩ := w8
    rcases (show i = 57 ∨ i = 58 ∨ i = 59 ∨ i = 60 by omega) with e | e | e | e <;> subst e
    · rw [v1]
      simp only [eClE, List.all_cons, List.all_nil, eClV, Bool.and_true, Bool.and_eq_true, Nat.ble_eq]; omega
    · rw [v2]; rfl
    · rw [v3]; rfl
    · rw [v4]; rfl
  obtain ⟨m1, m2, m3, m4, m5, m6, m7, m8, m9, m10⟩ := hm
  rcases (show i = 63 ∨ i = 64 ∨ i = 65 ∨ i = 66 ∨ i = 67 ∨ i = 68 ∨ i = 69 ∨ i = 70 ∨ i = 71 ∨ i = 72 ∨ i = 73 ∨ i = 74 by omega) with e | e | e | e | e | e | e | e | e | e | e | e <;> subst e
  · rw [m1]; unfold mCell
    simp only [eClE, List.all_cons, List.all_nil, eClV, Bool.and_true, Bool.true_and, Bool.and_eq_true, Nat.ble_eq]; omega
  · rw [m2]; rfl
  · rw [m3]; rfl
  · rw [m4]; rfl
  · rw [m5]; rfl
  · rw [m6]; rfl
  · rw [m7]; rfl
  · rw [m8]; rfl
  · rw [m9]; rfl
  · rw [m10]; rfl
  · rw [o3]; rfl
  · rw [o4]; rfl
/-- class and model are in step -/
def lRel (c : Int) (X : eXs) (G Q : eGd) (ya yz : Int) (Ks : Nat → eGd) (V : eVs) (T : eTx) (L : List Int) (s : Nat → Int) (A : Nat → Nat → Int) : Prop :=
  (gI c G ∧ gVG V G ∧ gTO T ∧ rR G (A 0)) ∧
  ((0 ≤ ya ∧ ya < 8) ∧ (0 ≤ yz ∧ yz ≤ 8) ∧ s 5 = yz ∧ ∀ i : Int, 0 ≤ i → i < yz → gI c (Ks (gPl ya i).toNat) ∧ rR (Ks (gPl ya i).toNat) (fun j => A 1 (62 * i.toNat + j))) ∧
  (X.1 = s 4 ∧ (s 4 = 0 ∨ s 4 = 1) ∧ (s 4 = 1 → gI c Q ∧ rR Q (A 2))) ∧
  (X.2.1 = s 12 ∧ X.2.2.1 = s 8 ∧ X.2.2.2 = s 9 ∧ i32 (s 8)) ∧
  (s 11 = T.2.2.2.1 ∧ ∀ i : Nat, (i : Int) < T.2.2.2.1 → A 4 i = T.1 i) ∧
  s 6 = 0 ∧ (lnR (A 5) (s 14) L ∧ s 14 ≤ 330)
def lJ (c : Int) (g : Nat) (h : eHp) (X : eXs) (G O Q : eGd) (ya yz : Int) (Ks : Nat → eGd) (V : eVs) (S : Int × Int × Int) (T : eTx) (L : List Int) (s : Nat → Int) (A : Nat → Nat → Int) : Prop :=
  cW h X G O Q ya yz Ks V S T ∧ bW h g L ∧ bC g h ∧ mM h s A ∧ lO h ∧ lRel c X G Q ya yz Ks V T L s A
def lI (c : Int) (g : Nat) (h : eHp) : Prop := ∃ X G O Q ya yz Ks V S T L s A, lJ c g h X G O Q ya yz Ks V S T L s A
theorem lRel_mono {c c' : Int} {X : eXs} {G Q : eGd} {ya yz : Int} {Ks : Nat → eGd} {V : eVs} {T : eTx} {L : List Int} {s : Nat → Int} {A : Nat → Nat → Int} (hc : c ≤ c') (hR : lRel c X G Q ya yz Ks V T L s A) : lRel c' X G Q ya yz Ks V T L s A := by
  obtain ⟨⟨r1, r2, r3, r4⟩, ⟨r5, r6, r7, r8⟩, ⟨r9, r10, r11⟩, r⟩ := hR
  exact ⟨⟨gI_mono hc r1, r2, r3, r4⟩, ⟨r5, r6, r7, fun i h1 h2 => ⟨gI_mono hc (r8 i h1 h2).1, (r8 i h1 h2).2⟩⟩, ⟨r9, r10, fun h => ⟨gI_mono hc (r11 h).1, (r11 h).2⟩⟩, r⟩
theorem lRel_sm {c : Int} {X : eXs} {G Q : eGd} {ya yz : Int} {Ks : Nat → eGd} {V : eVs} {T : eTx} {L : List Int} {s s' : Nat → Int} {A A' : Nat → Nat → Int} (hR : lRel c X G Q ya yz Ks V T L s A) (h : mSm s A s' A') : lRel c X G Q ya yz Ks V T L s' A' := by
  obtain ⟨a0, a1, a2, a4, a5, s4, s5, s6, s8, s9, s11, s12, s14⟩ := h
  unfold lRel
  rw [a0, a1, a2, a4, a5, s4, s5, s6, s8, s9, s11, s12, s14]
  exact hR
theorem gPl_v (a b : Int) : gPl a b = if a + b < 8 then a + b else a + b - 8 := by
  unfold gPl
  by_cases h : a + b < 8
  · rw [decide_eq_true h, if_pos h]
  · rw [decide_eq_false h, if_neg h]
theorem gUK_s {Ks : Nat → eGd} {p : Nat} {G : eGd} : gUK Ks p G p = G := if_pos rfl
theorem gUK_n {Ks : Nat → eGd} {p q : Nat} {G : eGd} (h : q ≠ p) : gUK Ks p G q = Ks q := if_neg h
/-- the history: a ring on one side, a list that is shifted on the other -/
theorem gKeep_ok {c ya yz ch' : Int} {Ks : Nat → eGd} {K K2 R : Nat → Int} {G K' : eGd} (ha : 0 ≤ ya ∧ ya < 8) (hz : 0 ≤ yz ∧ yz ≤ 8) (hk : ∀ i : Int, 0 ≤ i → i < yz → gI c (Ks (gPl ya i).toNat) ∧ rR (Ks (gPl ya i).toNat) (fun j => K (62 * i.toNat + j))) (hI : gI c G) (hr : rR G R) (hE : gE G K') (hu : kU yz K R ch' K2) :
    (0 ≤ (gKeep ya yz Ks K').1 ∧ (gKeep ya yz Ks K').1 < 8) ∧ (0 ≤ (gKeep ya yz Ks K').2.1 ∧ (gKeep ya yz Ks K').2.1 ≤ 8) ∧ ch' = (gKeep ya yz Ks K').2.1 ∧ ∀ i : Int, 0 ≤ i → i < (gKeep ya yz Ks K').2.1 → gI c ((gKeep ya yz Ks K').2.2 (gPl (gKeep ya yz Ks K').1 i).toNat) ∧ rR ((gKeep ya yz Ks K').2.2 (gPl (gKeep ya yz Ks K').1 i).toNat) (fun j => K2 (62 * i.toNat + j)) := by
  have new : ∀ {B : eGd} {n : Nat}, (∀ j : Nat, j < 62 → K2 (62 * n + j) = R j) → gI c (gBec K' B) ∧ rR (gBec K' B) (fun j => K2 (62 * n + j)) := by
    intro B n hj
    have hE2 : gE G (gBec K' B) := gE_t hE (gE_bec K' B)
    have hI2 := gI_E hE2 hI
    exact ⟨hI2, rR_congr hI2.1.2.1 hj (rR_E hI hE2 hr)⟩
  by_cases e8 : yz = 8
  · obtain ⟨u1, u2, u3⟩ := hu.1 e8
    have main : ∀ a' : Int, a' = (if ya + 1 < 8 then ya + 1 else 0) → (0 ≤ a' ∧ a' < 8) ∧ (0 ≤ yz - 1 + 1 ∧ yz - 1 + 1 ≤ 8) ∧ ch' = yz - 1 + 1 ∧ ∀ i : Int, 0 ≤ i → i < yz - 1 + 1 → gI c (gUK Ks (gPl a' (yz - 1)).toNat (gBec K' (Ks (gPl a' (yz - 1)).toNat)) (gPl a' i).toNat) ∧ rR (gUK Ks (gPl a' (yz - 1)).toNat (gBec K' (Ks (gPl a' (yz - 1)).toNat)) (gPl a' i).toNat) (fun j => K2 (62 * i.toNat + j)) := by
      intro a' ea
      have ea2 : 0 ≤ a' ∧ a' < 8 ∧ (a' = ya + 1 ∨ (ya = 7 ∧ a' = 0)) := by
        by_cases e : ya + 1 < 8
        · rw [if_pos e] at ea; omega
        · rw [if_neg e] at ea; omega
      refine ⟨by omega, by omega, by omega, fun i h0 h1 => ?_⟩
      by_cases e7 : i = 7
      · subst e7
        rw [show yz - 1 = 7 by omega, gUK_s]
        exact new (n := 7) u3
      · have ne : (gPl a' i).toNat ≠ (gPl a' (yz - 1)).toNat := by
          rw [gPl_v, gPl_v]
          split <;> split <;> omega
        rw [gUK_n ne]
        have ee : (gPl a' i).toNat = (gPl ya (i + 1)).toNat := by
          rw [gPl_v, gPl_v]
          split <;> split <;> omega
        rw [ee]
        obtain ⟨k1, k2⟩ := hk (i + 1) (by omega) (by omega)
        refine ⟨k1, rR_congr k1.1.2.1 (fun j hj => ?_) k2⟩
        rw [u2 i.toNat j (by omega) hj, show (i + 1).toNat = i.toNat + 1 by omega]
    unfold gKeep
    rw [decide_eq_true e8]
    by_cases e : ya + 1 < 8
    · rw [decide_eq_true e]; exact main (ya + 1) (if_pos e).symm
    · rw [decide_eq_false e]; exact main 0 (if_neg e).symm
  · obtain ⟨u1, u2, u3⟩ := hu.2 (by omega)
    unfold gKeep
    rw [decide_eq_false e8]
    refine ⟨ha, by show 0 ≤ yz + 1 ∧ yz + 1 ≤ 8; omega, u1, fun i h0 h1 => ?_⟩
    have h1 : i < yz + 1 := h1
    show gI c (gUK Ks (gPl ya yz).toNat (gBec K' (Ks (gPl ya yz).toNat)) (gPl ya i).toNat) ∧ rR (gUK Ks (gPl ya yz).toNat (gBec K' (Ks (gPl ya yz).toNat)) (gPl ya i).toNat) (fun j => K2 (62 * i.toNat + j))
    by_cases ez : i = yz
    · subst ez
      rw [gUK_s]
      exact new (n := i.toNat) u3
    · have ne : (gPl ya i).toNat ≠ (gPl ya yz).toNat := by
        rw [gPl_v, gPl_v]
        split <;> split <;> omega
      rw [gUK_n ne]
      obtain ⟨k1, k2⟩ := hk i h0 (by omega)
      exact ⟨k1, rR_congr k1.1.2.1 (fun j hj => u2 i.toNat j (by omega) hj) k2⟩
/-- the orders -/
theorem lRel_op {c : Int} {X : eXs} {G Q K' : eGd} {ya yz : Int} {Ks : Nat → eGd} {V V' : eVs} {T : eTx} {L : List Int} {s s' : Nat → Int} {A A' : Nat → Nat → Int} {r : gO} {f : Int → Int} {v x : Int} (hR : lRel c X G Q ya yz Ks V T L s A) (hg : gI (c + 1) r.2.2.2) (hv : gVG V' r.2.2.2) (hi : i32 r.2.1) (hE : gE G K') (hm : mOp r f v s A s' A' x) :
    lRel (c + 30) (oX X r) r.2.2.2 Q (kE r.1 ya yz Ks K').1 (kE r.1 ya yz Ks K').2.1 (kE r.1 ya yz Ks K').2.2 V' T L s' A' := by
  obtain ⟨⟨r1, r2, r3, r4⟩, ⟨r5, r6, r7, r8⟩, ⟨r9, r10, r11⟩, ⟨r12, r13, r14, r15⟩, ⟨r16, r17⟩, r18, r19, r20⟩ := hR
  obtain ⟨m1, m2, m3, m4, m5, m6, a2, a3, a4, a5, a8, s4, s6, s11, s12, s14, s22⟩ := hm
  have hX : (oX X r).1 = X.1 ∧ (oX X r).2.1 = X.2.1 := by unfold oX; split <;> exact ⟨rfl, rfl⟩
  refine ⟨⟨gI_mono (by omega) hg, hv, r3, m2⟩, ?_, ⟨by rw [hX.1, s4]; exact r9, by rw [s4]; exact r10, by rw [s4, a2]; exact fun e => ⟨gI_mono (by omega) (r11 e).1, (r11 e).2⟩⟩, ?_, ⟨by rw [s11]; exact r16, by rw [a4]; exact r17⟩, by rw [s6]; exact r18, by rw [a5, s14]; exact r19, by rw [s14]; exact r20⟩
  · by_cases e0 : r.1 = 0
    · have hk : kE r.1 ya yz Ks K' = gKeep ya yz Ks K' := by unfold kE; rw [if_pos e0]
      rw [hk]
      have hu := (m5 e0).1.2 r18
      rw [r7] at hu
      obtain ⟨k1, k2, k3, k4⟩ := gKeep_ok r5 r6 r8 r1 r4 hE hu
      exact ⟨k1, k2, k3, fun i h1 h2 => ⟨gI_mono (by omega) (k4 i h1 h2).1, (k4 i h1 h2).2⟩⟩
    · have hk : kE r.1 ya yz Ks K' = (ya, yz, Ks) := by unfold kE; rw [if_neg e0]
      rw [hk, (m6 e0).1, (m6 e0).2.1]
      exact ⟨r5, r6, r7, fun i h1 h2 => ⟨gI_mono (by omega) (r8 i h1 h2).1, (r8 i h1 h2).2⟩⟩
  · rw [hX.2, s12]
    by_cases e3 : r.1 = 3
    · have e : oX X r = (X.1, X.2.1, r.2.1, r.2.2.1) := by unfold oX; rw [if_pos e3]
      rw [e, (m3 e3).1, (m3 e3).2]
      exact ⟨r12, rfl, rfl, hi⟩
    · have e : oX X r = X := by unfold oX; rw [if_neg e3]
      rw [e, (m4 e3).1, (m4 e3).2]
      exact ⟨r12, r13, r14, r15⟩
