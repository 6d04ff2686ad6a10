/-! the model's other answers -/
theorem ch_16 (a : Int) : ∃ ch : Int, (0 ≤ ch ∧ ch ≤ 65535) ∧ ((Int32.ofInt a).toUInt32 % 65536).toInt32 = Int32.ofInt ch := by
  refine ⟨(((Int32.ofInt a).toUInt32 % 65536).toNat : Int), ?_, ?_⟩
  · have h : ((Int32.ofInt a).toUInt32 % 65536).toNat < 65536 := by
      rw [UInt32.toNat_mod]
      exact Nat.mod_lt _ (by decide)
    omega
  · rw [← Int32.toBitVec_inj]
    simp only [Int32.toBitVec_ofInt, BitVec.ofInt_natCast]
    show ((Int32.ofInt a).toUInt32 % 65536).toBitVec = _
    rw [← UInt32.toNat_toBitVec, BitVec.ofNat_toNat, BitVec.setWidth_eq]
theorem gRn_i {T : eTx} : ∀ (n : Nat) (i : Int) (G : eGd), i32 (gRn T n i G).2.1
  | 0, _, _ => by unfold gRn; unfold i32; dsimp only; omega
  | n + 1, i, G => by
    unfold gRn
    split
    · exact gRn_i n (i + 1) _
    · unfold oOrd
      split
      · exact oPit_i _ _
      · split
        · exact oDig_i _ _ _
        · split
          · exact oScp_i _ _ _ _
          · exact oNxt_i _
theorem ite_EU {p : Prop} [Decidable p] {α : Type} {v : α} {E E1 : String} (h : (if p then .inr E1 else .inl v : α ⊕ String) = .inr E) : E = E1 := by
  split at h
  · cases h; rfl
  · cases h
theorem ite_EU2 {p q : Prop} [Decidable p] [Decidable q] {α : Type} {v : α} {E E1 E2 : String} (h : (if p then .inr E1 else if q then .inr E2 else .inl v : α ⊕ String) = .inr E) : E = E1 ∨ E = E2 := by
  split at h
  · cases h; exact Or.inl rfl
  · exact Or.inr (ite_EU h)
section MR
variable {c : Int} {d g : Nat} {h : eHp} {X : eXs} {G O Q : eGd} {ya yz : Int} {Ks : Nat → eGd} {V : eVs} {S : Int × Int × Int} {T : eTx} {L : List Int} {s : Nat → Int} {A : Nat → Nat → Int}
theorem mAsD_1 {N : Nat} {h1 : eHp} {M : eM} {as : List Value} {v : UInt64} {l : List String} {E : String} {n : Int} (hR : lRel c X G Q ya yz Ks V T L s A) (hE : 1 = lCd l E) (k : eSp d M as N h1 (mQd v (mIf (decide (n ≠ 0)) 1 0) s A h1 N)) : eSp d M as N h1 (mAsD c L (lSame X G Q ya yz Ks V T) (if n = 0 then .inr E else .inl v) l N h1) := by
  refine k.imp (fun q hq => ?_)
  obtain ⟨h', s', A', x, e, hm, hf, h7, hx, hs⟩ := hq
  refine ⟨h', s', A', x, e, hm, hf, ?_, lSame_R hR hs⟩
  by_cases e0 : n = 0
  · rw [decide_eq_false (fun h9 => h9 e0)] at h7
    rw [if_pos e0]
    exact h7.trans hE
  · rw [decide_eq_true e0] at h7 hx
    rw [if_neg e0]
    exact ⟨h7, hx rfl⟩
theorem mAsF_2 {N : Nat} {h1 : eHp} {M : eM} {as : List Value} {v : UInt32} {l : List String} {E E2 : String} {b : Bool} {n : Int} (hR : lRel c X G Q ya yz Ks V T L s A) (hE : 1 = lCd l E) (hE2 : 2 = lCd l E2) (k : eSp d M as N h1 (mQf v (mIf b 1 (mIf (decide (n ≠ 0)) 2 0)) s A h1 N)) : eSp d M as N h1 (mAsF c L (lSame X G Q ya yz Ks V T) (if b = false then .inr E else if n = 0 then .inr E2 else .inl v) l N h1) := by
  refine k.imp (fun q hq => ?_)
  obtain ⟨h', s', A', x, e, hm, hf, h7, hx, hs⟩ := hq
  refine ⟨h', s', A', x, e, hm, hf, ?_, lSame_R hR hs⟩
  cases b with
  | false => exact h7.trans hE
  | true =>
    rw [if_neg (by decide)]
    by_cases e0 : n = 0
    · rw [decide_eq_false (fun h9 => h9 e0)] at h7
      rw [if_pos e0]
      exact h7.trans hE2
    · rw [decide_eq_true e0] at h7 hx
      rw [if_neg e0]
      exact ⟨h7, hx rfl⟩
/-- append -/
def lApp (X : eXs) (G Q : eGd) (ya yz : Int) (Ks : Nat → eGd) (V : eVs) (T2 : eTx) : eXs → eGd → eGd → Int → Int → (Nat → eGd) → eVs → eTx → Prop := lSame X G Q ya yz Ks V T2
theorem mAs_app {N : Nat} {h1 : eHp} {x : Int} (hR : lRel c X G Q ya yz Ks V T L s A) (hx : 0 ≤ x ∧ x ≤ 65535) (hm : mM h1 s A) (hN : 75 ≤ N) : eSp (d + 2) eM_X7_append [.ref 63, vI x] N h1 (mAs c L (lApp X G Q ya yz Ks V (if T.2.2.2.1 = 60 then T else (eUp T.1 T.2.2.2.1.toNat x, T.2.1, T.2.2.1, T.2.2.2.1 + 1, T.2.2.2.2))) (if T.2.2.2.1 = 60 then .inr nISE else .inl (T.2.2.2.1 + 1)) [nISE] N h1) := by
  have hR9 := hR
  obtain ⟨⟨r1, r2, r3, r4⟩, ⟨r5, r6, r7, r8⟩, ⟨r9, r10, r11⟩, ⟨r12, r13, r14, r15⟩, ⟨r16, r17⟩, r18, r19, r20⟩ := lRel_mono (c' := c + 30) (by omega) hR9
  have t0 := r3.1
  refine (m_append (d := d) hm hN (by omega) (x := x)).imp (fun q hq => ?_)
  obtain ⟨h', s', A', y, e, hm2, hf, m1, m2, a0, a1, a2, a5, s4, s5, s6, s8, s9, s12, s14⟩ := hq
  by_cases e6 : T.2.2.2.1 = 60
  · obtain ⟨s7, s11, a4⟩ := m1 (by omega)
    refine ⟨h', s', A', y, e, hm2, hf, ?_, ?_⟩
    · rw [if_pos e6]; exact s7.trans (by decide +kernel)
    · rw [if_pos e6]
      rintro X' G' Q' ya' yz' Ks' V' T' ⟨rfl, rfl, rfl, rfl, rfl, rfl, rfl, rfl⟩
      unfold lRel
      rw [a0, a1, a2, a5, a4, s4, s5, s6, s8, s9, s11, s12, s14]
      exact ⟨⟨r1, r2, r3, r4⟩, ⟨r5, r6, r7, r8⟩, ⟨r9, r10, r11⟩, ⟨r12, r13, r14, r15⟩, ⟨r16, r17⟩, r18, r19, r20⟩
  · obtain ⟨s7, s11, ey, a4⟩ := m2 (by omega)
    refine ⟨h', s', A', y, e, hm2, hf, ?_, ?_⟩
    · rw [if_neg e6]; exact ⟨s7, by omega⟩
    · rw [if_neg e6]
      rintro X' G' Q' ya' yz' Ks' V' T' ⟨rfl, rfl, rfl, rfl, rfl, rfl, rfl, rfl⟩
      unfold lRel
      rw [a0, a1, a2, a5, a4, s4, s5, s6, s8, s9, s11, s12, s14]
      obtain ⟨t1, t2, t3, t4, t5, t6⟩ := r3
      refine ⟨⟨r1, r2, ⟨by show 0 ≤ T.2.2.2.1 + 1 ∧ T.2.2.2.1 + 1 ≤ 60; omega, t2, t3, fun i hi => ?_, t5, t6⟩, r4⟩, ⟨r5, r6, r7, r8⟩, ⟨r9, r10, r11⟩, ⟨r12, r13, r14, r15⟩, ⟨by show s 11 + 1 = T.2.2.2.1 + 1; omega, fun i hi => ?_⟩, r18, r19, r20⟩
      · show 0 ≤ eUp T.1 T.2.2.2.1.toNat x i ∧ eUp T.1 T.2.2.2.1.toNat x i ≤ 65535
        unfold eUp
        split
        · exact hx
        · exact t4 i hi
      · have hi : (i : Int) < T.2.2.2.1 + 1 := hi
        show eUp (A 4) (s 11).toNat x i = eUp T.1 T.2.2.2.1.toNat x i
        rw [r16]
        unfold eUp
        split
        · rfl
        · exact r17 i (by omega)
/-- undo -/
def lUnd (X : eXs) (G Q : eGd) (ya yz : Int) (Ks : Nat → eGd) (V : eVs) (T : eTx) : eXs → eGd → eGd → Int → Int → (Nat → eGd) → eVs → eTx → Prop := fun X' G' Q' ya' yz' Ks' V' T' => (yz = 0 → lSame X G Q ya yz Ks V T X' G' Q' ya' yz' Ks' V' T') ∧ (yz ≠ 0 → X' = X ∧ G' = gBec (Ks (gPl ya (yz - 1)).toNat) G ∧ Q' = Q ∧ ya' = ya ∧ yz' = yz - 1 ∧ Ks' = Ks ∧ T' = T ∧ gVG V' G')
theorem mAs_und {N : Nat} {h1 : eHp} (hR : lRel c X G Q ya yz Ks V T L s A) (hm : mM h1 s A) (hN : 75 ≤ N) : eSp (d + 2) eM_X7_undo [.ref 63] N h1 (mAs c L (lUnd X G Q ya yz Ks V T) (if yz = 0 then .inr nISE else .inl (yz - 1)) [nISE] N h1) := by
  have hR9 := hR
  obtain ⟨⟨r1, r2, r3, r4⟩, ⟨r5, r6, r7, r8⟩, ⟨r9, r10, r11⟩, ⟨r12, r13, r14, r15⟩, ⟨r16, r17⟩, r18, r19, r20⟩ := lRel_mono (c' := c + 30) (by omega) hR9
  refine (m_undo (d := d) hm hN (by omega)).imp (fun q hq => ?_)
  obtain ⟨h', s', A', y, e, hm2, hf, m1, m2, a1, a2, a3, a4, a5, s4, s6, s8, s9, s11, s12, s14⟩ := hq
  by_cases e6 : yz = 0
  · obtain ⟨s7, s5, a0⟩ := m1 (by omega)
    refine ⟨h', s', A', y, e, hm2, hf, ?_, ?_⟩
    · rw [if_pos e6]; exact s7.trans (by decide +kernel)
    · rintro X' G' Q' ya' yz' Ks' V' T' ⟨hrel, -⟩
      obtain ⟨rfl, rfl, rfl, rfl, rfl, rfl, rfl, rfl⟩ := hrel e6
      unfold lRel
      rw [a0, a1, a2, a5, a4, s4, s5, s6, s8, s9, s11, s12, s14]
      exact ⟨⟨r1, r2, r3, r4⟩, ⟨r5, r6, r7, r8⟩, ⟨r9, r10, r11⟩, ⟨r12, r13, r14, r15⟩, ⟨r16, r17⟩, r18, r19, r20⟩
  · obtain ⟨s7, s5, ey, a0⟩ := m2 (by omega)
    refine ⟨h', s', A', y, e, hm2, hf, ?_, ?_⟩
    · rw [if_neg e6]; exact ⟨s7, by omega⟩
    · rintro X' G' Q' ya' yz' Ks' V' T' ⟨-, hrel⟩
      obtain ⟨rfl, rfl, rfl, rfl, rfl, rfl, rfl, hv⟩ := hrel e6
      obtain ⟨k1, k2⟩ := r8 (yz - 1) (by omega) (by omega)
      have hE := gE_bec (Ks' (gPl ya' (yz - 1)).toNat) G
      have hI2 := gI_E hE k1
      unfold lRel
      rw [a1, a2, a5, a4, s4, s5, s6, s8, s9, s11, s12, s14]
      refine ⟨⟨hI2, hv, r3, ?_⟩, ⟨r5, by omega, by omega, fun i h0 h1 => r8 i h0 (by omega)⟩, ⟨r9, r10, r11⟩, ⟨r12, r13, r14, r15⟩, ⟨r16, r17⟩, r18, r19, r20⟩
      refine rR_congr hI2.1.2.1 (fun j hj => ?_) (rR_E k1 hE k2)
      rw [a0, eCp_in (by omega), show (62 * (s 5 - 1)).toNat + (j - 0) = 62 * (yz - 1).toNat + j by omega]
/-- save -/
def lSav (X : eXs) (G Q : eGd) (ya yz : Int) (Ks : Nat → eGd) (V : eVs) (T : eTx) : eXs → eGd → eGd → Int → Int → (Nat → eGd) → eVs → eTx → Prop := lSame (1, X.2.1, X.2.2.1, X.2.2.2) G (gBec G Q) ya yz Ks V T
theorem mAs_sav {N : Nat} {h1 : eHp} (hR : lRel c X G Q ya yz Ks V T L s A) (hm : mM h1 s A) (hN : 75 ≤ N) : eSp (d + 2) eM_X7_save [.ref 63] N h1 (mAs c L (lSav X G Q ya yz Ks V T) (.inl G.2.2.2.1) [] N h1) := by
  have hR9 := hR
  obtain ⟨⟨r1, r2, r3, r4⟩, ⟨r5, r6, r7, r8⟩, ⟨r9, r10, r11⟩, ⟨r12, r13, r14, r15⟩, ⟨r16, r17⟩, r18, r19, r20⟩ := lRel_mono (c' := c + 30) (by omega) hR9
  refine (m_save (d := d) hm hN hR.1.2.2.2 hR.1.1).imp (fun q hq => ?_)
  obtain ⟨h', s', A', y, e, hm2, hf, s7, ey, s4, a2, a0, a1, a3, a4, a5, s5, s6, s8, s9, s11, s12, s14⟩ := hq
  refine ⟨h', s', A', y, e, hm2, hf, ⟨s7, ey⟩, ?_⟩
  rintro X' G' Q' ya' yz' Ks' V' T' ⟨rfl, rfl, rfl, rfl, rfl, rfl, rfl, rfl⟩
  unfold lRel
  rw [a0, a1, a5, a4, s4, s5, s6, s8, s9, s11, s12, s14]
  have hE := gE_bec G' Q
  have hI2 := gI_E hE r1
  refine ⟨⟨r1, r2, r3, r4⟩, ⟨r5, r6, r7, r8⟩, ⟨rfl, Or.inr rfl, fun _ => ⟨hI2, ?_⟩⟩, ⟨r12, r13, r14, r15⟩, ⟨r16, r17⟩, r18, r19, r20⟩
  refine rR_congr hI2.1.2.1 (fun j hj => ?_) (rR_E r1 hE r4)
  rw [a2, eCp_in (by omega), show 0 + (j - 0) = j by omega]
/-- restore -/
def lRes (X : eXs) (G Q : eGd) (ya yz : Int) (Ks : Nat → eGd) (V : eVs) (T : eTx) : eXs → eGd → eGd → Int → Int → (Nat → eGd) → eVs → eTx → Prop := fun X' G' Q' ya' yz' Ks' V' T' => (X.1 = 0 → lSame X G Q ya yz Ks V T X' G' Q' ya' yz' Ks' V' T') ∧ (X.1 ≠ 0 → X' = X ∧ G' = gBec Q G ∧ Q' = Q ∧ ya' = ya ∧ yz' = 0 ∧ Ks' = Ks ∧ T' = T ∧ gVG V' G')
theorem mAs_res {N : Nat} {h1 : eHp} (hR : lRel c X G Q ya yz Ks V T L s A) (hm : mM h1 s A) (hN : 75 ≤ N) : eSp (d + 2) eM_X7_restore [.ref 63] N h1 (mAs c L (lRes X G Q ya yz Ks V T) (if X.1 = 0 then .inr nISE else .inl Q.2.2.2.1) [nISE] N h1) := by
  have hR9 := hR
  obtain ⟨⟨r1, r2, r3, r4⟩, ⟨r5, r6, r7, r8⟩, ⟨r9, r10, r11⟩, ⟨r12, r13, r14, r15⟩, ⟨r16, r17⟩, r18, r19, r20⟩ := lRel_mono (c' := c + 30) (by omega) hR9
  refine (m_restore (d := d) hm hN r10).imp (fun q hq => ?_)
  obtain ⟨h', s', A', y, e, hm2, hf, m1, m2, a1, a2, a3, a4, a5, s4, s6, s8, s9, s11, s12, s14⟩ := hq
  by_cases e6 : X.1 = 0
  · obtain ⟨s7, s5, a0⟩ := m1 (by omega)
    refine ⟨h', s', A', y, e, hm2, hf, ?_, ?_⟩
    · rw [if_pos e6]; exact s7.trans (by decide +kernel)
    · rintro X' G' Q' ya' yz' Ks' V' T' ⟨hrel, -⟩
      obtain ⟨rfl, rfl, rfl, rfl, rfl, rfl, rfl, rfl⟩ := hrel e6
      unfold lRel
      rw [a0, a1, a2, a5, a4, s4, s5, s6, s8, s9, s11, s12, s14]
      exact ⟨⟨r1, r2, r3, r4⟩, ⟨r5, r6, r7, r8⟩, ⟨r9, r10, r11⟩, ⟨r12, r13, r14, r15⟩, ⟨r16, r17⟩, r18, r19, r20⟩
  · obtain ⟨s7, s5, ey, a0⟩ := m2 (by omega)
    obtain ⟨k1, k2⟩ := r11 (by omega)
    refine ⟨h', s', A', y, e, hm2, hf, ?_, ?_⟩
    · rw [if_neg e6]; exact ⟨s7, ey.trans k2.1⟩
    · rintro X' G' Q' ya' yz' Ks' V' T' ⟨-, hrel⟩
      obtain ⟨rfl, rfl, rfl, rfl, rfl, rfl, rfl, hv⟩ := hrel e6
      have hE := gE_bec Q' G
      have hI2 := gI_E hE k1
      unfold lRel
      rw [a1, a2, a5, a4, s4, s5, s6, s8, s9, s11, s12, s14]
      refine ⟨⟨hI2, hv, r3, ?_⟩, ⟨r5, by omega, rfl, fun i h0 h1 => absurd h1 (by omega)⟩, ⟨r9, r10, r11⟩, ⟨r12, r13, r14, r15⟩, ⟨r16, r17⟩, r18, r19, r20⟩
      refine rR_congr hI2.1.2.1 (fun j hj => ?_) (rR_E k1 hE k2)
      rw [a0, eCp_in (by omega), show 0 + (j - 0) = j by omega]
/-- run -/
def lRun (X : eXs) (G O Q : eGd) (ya yz : Int) (Ks : Nat → eGd) (T : eTx) : eXs → eGd → eGd → Int → Int → (Nat → eGd) → eVs → eTx → Prop := fun X' G' Q' ya' yz' Ks' V' T' => X' = oX (X.1, tPos (tRead T), X.2.2.1, X.2.2.2) (oRun G T) ∧ Q' = Q ∧ ya' = (kE (oRun G T).1 ya yz Ks (gBec G O)).1 ∧ yz' = (kE (oRun G T).1 ya yz Ks (gBec G O)).2.1 ∧ Ks' = (kE (oRun G T).1 ya yz Ks (gBec G O)).2.2 ∧ T' = ((tRead T).2.1, (tRead T).2.2.1, (tRead T).2.2.2.1, 0, (tRead T).2.2.2.2.2) ∧ gVG V' G' ∧ gTO T' ∧ ((oRun G T).1 = 0 → G' = (oRun G T).2.2.2) ∧ ((oRun G T).1 ≠ 0 → gE G G')
theorem mAs_run {N : Nat} {h1 : eHp} (O : eGd) (hR : lRel c X G Q ya yz Ks V T L s A) (hRO : gTO (tRead T).2) (hm : mM h1 s A) (hN : 75 ≤ N) : eSp (d + 6) eM_X7_run [.ref 63] N h1 (mAs c L (lRun X G O Q ya yz Ks T) (aRn (oRun G T).1 (tRead T).2.2.2.2.2.2) [nIAE, nUOE] N h1) := by
  have hR9 := hR
  obtain ⟨⟨q1, -, -, q4⟩, ⟨q5, q6, q7, q8⟩, -⟩ := hR9
  obtain ⟨⟨r1, r2, r3, r4⟩, ⟨r5, r6, r7, r8⟩, ⟨r9, r10, r11⟩, ⟨r12, r13, r14, r15⟩, ⟨r16, r17⟩, r18, r19, r20⟩ := lRel_mono (c' := c + 30) (by omega) hR
  refine (m_run (d := d) hm hN q4 q1 r18 (by omega) r3 r16 r17 hRO).imp (fun q hq => ?_)
  obtain ⟨h', s', A', x, e, hm2, hf, ⟨m1, m2⟩, s11, a2, a5, s4, s6, s14⟩ := hq
  have snap : ∀ X' : eXs, X'.1 = X.1 → X'.1 = s' 4 ∧ (s' 4 = 0 ∨ s' 4 = 1) ∧ (s' 4 = 1 → gI (c + 30) Q ∧ rR Q (A' 2)) := by
    intro X' e9
    rw [s4, a2]
    exact ⟨e9.trans r9, r10, r11⟩
  have line : lnR (A' 5) (s' 14) L ∧ s' 14 ≤ 330 := by rw [a5, s14]; exact ⟨r19, r20⟩
  have text : ∀ T' : eTx, T' = ((tRead T).2.1, (tRead T).2.2.1, (tRead T).2.2.2.1, 0, (tRead T).2.2.2.2.2) → s' 11 = T'.2.2.2.1 ∧ ∀ i : Nat, (i : Int) < T'.2.2.2.1 → A' 4 i = T'.1 i := by
    rintro T' rfl
    exact ⟨s11, fun i hi => absurd (show (i : Int) < 0 from hi) (by omega)⟩
  have oXi : ∀ (Y : eXs) (r : gO), (oX Y r).1 = Y.1 ∧ (oX Y r).2.1 = Y.2.1 := fun Y r => by unfold oX; split <;> exact ⟨rfl, rfl⟩
  cases h0 : (tRead T).1 with
  | false =>
    obtain ⟨s7, s12, a0, a1, s5, s8, s9⟩ := m1 h0
    have eo := oRun_f (G := G) h0
    refine ⟨h', s', A', x, e, hm2, hf, ?_, ?_⟩
    · rw [eo]; exact s7.trans (by decide +kernel)
    · rintro X' G' Q' ya' yz' Ks' V' T' ⟨rfl, rfl, rfl, rfl, rfl, eT, hv, hT, -, hE⟩
      have hE := hE (by rw [eo]; show (2 : Int) ≠ 0; decide)
      have ek : kE (oRun G T).1 ya yz Ks (gBec G O) = (ya, yz, Ks) := by rw [eo]; exact if_neg (show ¬ (2 : Int) = 0 by decide)
      have ex : oX (X.1, tPos (tRead T), X.2.2.1, X.2.2.2) (oRun G T) = (X.1, tPos (tRead T), X.2.2.1, X.2.2.2) := by rw [eo]; exact if_neg (show ¬ (2 : Int) = 3 by decide)
      rw [ek, ex]
      refine ⟨⟨gI_E hE r1, hv, hT, by rw [a0]; exact rR_E r1 hE r4⟩, ⟨r5, r6, by rw [s5]; exact r7, by rw [a1]; exact r8⟩, snap _ rfl, ⟨?_, by rw [s8]; exact r13, by rw [s9]; exact r14, by rw [s8]; exact r15⟩, text _ eT, s6, line⟩
      rw [s12]
      show tPos (tRead T) = _
      unfold tPos; rw [h0]
  | true =>
    obtain ⟨s12, n1, n2⟩ := m2 h0
    have eo := oRun_t (G := G) h0
    have ht : tPos (tRead T) = -1 := by unfold tPos; rw [h0]
    rw [← eo] at n1 n2
    have hgi : gI (c + 30) (oRun G T).2.2.2 := by
      rw [eo]
      exact gI_mono (by have := hRO.2.2.1; omega) (gI_gRn _ q1)
    have hi : i32 (oRun G T).2.1 := by rw [eo]; exact gRn_i _ _ _
    by_cases e0 : (oRun G T).1 = 0
    · obtain ⟨s7, ex, k1, k2, s8, s9⟩ := n1 e0
      refine ⟨h', s', A', x, e, hm2, hf, ?_, ?_⟩
      · rw [e0]; exact ⟨s7, ex⟩
      · rintro X' G' Q' ya' yz' Ks' V' T' ⟨rfl, rfl, rfl, rfl, rfl, eT, hv, hT, hG, -⟩
        have hG := hG e0
        have ek : kE (oRun G T).1 ya yz Ks (gBec G O) = gKeep ya yz Ks (gBec G O) := if_pos e0
        have ex : oX (X.1, tPos (tRead T), X.2.2.1, X.2.2.2) (oRun G T) = (X.1, tPos (tRead T), X.2.2.1, X.2.2.2) := if_neg (by omega)
        rw [ek, ex]
        rw [q7] at k2
        obtain ⟨u1, u2, u3, u4⟩ := gKeep_ok q5 q6 q8 q1 q4 (gE_bec G O) k2
        exact ⟨⟨by rw [hG]; exact hgi, hv, hT, by rw [hG]; exact k1⟩, ⟨u1, u2, u3, fun i h1 h2 => ⟨gI_mono (by omega) (u4 i h1 h2).1, (u4 i h1 h2).2⟩⟩, snap _ rfl, ⟨ht.trans s12.symm, by rw [s8]; exact r13, by rw [s9]; exact r14, by rw [s8]; exact r15⟩, text _ eT, s6, line⟩
    · obtain ⟨s7, k1, s5, a1, n3, n4⟩ := n2 e0
      have ek : kE (oRun G T).1 ya yz Ks (gBec G O) = (ya, yz, Ks) := if_neg e0
      by_cases e3 : (oRun G T).1 = 3
      · obtain ⟨s8, s9⟩ := n3 e3
        refine ⟨h', s', A', x, e, hm2, hf, ?_, ?_⟩
        · rw [e3]; rw [if_pos e3] at s7; exact s7.trans (by decide +kernel)
        · rintro X' G' Q' ya' yz' Ks' V' T' ⟨rfl, rfl, rfl, rfl, rfl, eT, hv, hT, -, hE⟩
          have hE := hE e0
          have ex : oX (X.1, tPos (tRead T), X.2.2.1, X.2.2.2) (oRun G T) = (X.1, tPos (tRead T), (oRun G T).2.1, (oRun G T).2.2.1) := if_pos e3
          rw [ek, ex]
          exact ⟨⟨gI_E hE r1, hv, hT, rR_E r1 hE k1⟩, ⟨r5, r6, by rw [s5]; exact r7, by rw [a1]; exact r8⟩, snap _ rfl, ⟨ht.trans s12.symm, s8.symm, s9.symm, by rw [s8]; exact hi⟩, text _ eT, s6, line⟩
      · obtain ⟨s8, s9⟩ := n4 e3
        refine ⟨h', s', A', x, e, hm2, hf, ?_, ?_⟩
        · have ea : aRn (oRun G T).1 (tRead T).2.2.2.2.2.2 = .inr nIAE := by unfold aRn; rw [if_neg e0, if_neg e3]
          rw [ea]; rw [if_neg e3] at s7; exact s7.trans (by decide +kernel)
        · rintro X' G' Q' ya' yz' Ks' V' T' ⟨rfl, rfl, rfl, rfl, rfl, eT, hv, hT, -, hE⟩
          have hE := hE e0
          have ex : oX (X.1, tPos (tRead T), X.2.2.1, X.2.2.2) (oRun G T) = (X.1, tPos (tRead T), X.2.2.1, X.2.2.2) := if_neg e3
          rw [ek, ex]
          exact ⟨⟨gI_E hE r1, hv, hT, rR_E r1 hE k1⟩, ⟨r5, r6, by rw [s5]; exact r7, by rw [a1]; exact r8⟩, snap _ rfl, ⟨ht.trans s12.symm, by rw [s8]; exact r13, by rw [s9]; exact r14, by rw [s8]; exact r15⟩, text _ eT, s6, line⟩
end MR
theorem gShr_ok2 {c m : Int} {G : eGd} (hI : gI c G) (hc : c ≤ 15990) (hm : 0 ≤ m ∧ m < 2) (h0 : ¬ G.2.2.1 0 + G.2.2.1 4 = 0) : (gShr (gTal G m 0) (G.2.2.1 0 + G.2.2.1 4)).toNat % 2147483648 ≤ 2139095040 := by
  have htb0 : gTal G 0 0 = G.2.2.1 0 ∧ gTal G 1 0 = G.2.2.1 4 ∧ (0 ≤ G.2.2.1 0 ∧ G.2.2.1 0 ≤ 6 * c) ∧ (0 ≤ G.2.2.1 4 ∧ G.2.2.1 4 ≤ 6 * c) := gTal_b hI 0 (by decide)
  have hs04 := hI.2.2.2.2.2.1
  exact gShr_ok (by have e9 := gTal0_le hI (m := m) (by omega); omega) (by omega)
theorem bW_g {h : eHp} {g : Nat} {L : List Int} (hb : bW h g L) : g ≤ 5 := by
  obtain ⟨b, B, ml, b1, b2, b3, b4, b5, b6, b7, b8, b9⟩ := hb
  exact b8
theorem bSum_z {g g' : Nat} (h : g' ≤ 5) : bSum g' - bSum g ≤ 2000 := by
  have h1 := bSum_le h
  have h2 : bSum 5 ≤ 2000 := by decide
  omega
theorem gLine_len {G : eGd} (h : G.2.2.2.1 ≤ 40) : (gLine G).length ≤ 330 := by
  unfold gLine
  have h1 := gLnP_len (D := gDig G) (F := G.1) G.2.2.2.1.toNat
  have h2 := dg_len (gSm G)
  simp only [List.length_append, List.length_cons, List.length_nil]
  omega
theorem lRel_sl {c : Int} {X : eXs} {G Q : eGd} {ya yz : Int} {Ks : Nat → eGd} {V : eVs} {T : eTx} {L L2 : List Int} {s s' : Nat → Int} {A A' : Nat → Nat → Int} (hR : lRel c X G Q ya yz Ks V T L s A) (h : mSl s A s' A') (hl : lnR (A' 5) (s' 14) L2) (h3 : L2.length ≤ 330) : lRel (c + 30) X G Q ya yz Ks V T L2 s' A' := by
  obtain ⟨a0, a1, a2, a4, s4, s5, s6, s8, s9, s11, s12⟩ := h
  obtain ⟨r1, r2, r3, r4, r5, r6, r7⟩ := lRel_mono (c' := c + 30) (by omega) hR
  have h14 := hl.1
  unfold lRel
  rw [a0, a1, a2, a4, s4, s5, s6, s8, s9, s11, s12]
  exact ⟨r1, r2, r3, r4, r5, r6, hl, by omega⟩
