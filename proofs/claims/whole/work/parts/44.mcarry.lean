/-! the model carries out a text -/
theorem eW_callVR {ox : Nat → Option (Nat × Nat × (Nat → Int32))} {C : eM → List Value → Nat → eHp → eR → Prop} {M : eM} {P : eR → Prop} {pc tg : Nat} {lv : eLv} {st : List Value} {N : Nat} {h : eHp} {k z : Nat} (pc' : Nat) {x cn na a : Nat} {M' : eM} {fs : List Value} {F : Int → eHp → Prop} (args : List Value) (r : List Value) (hc : eLk pc M.2.2.2.2.2.2 = some (.invokevirtual x, tg)) (hp : pc + 3 = pc') (hm : eMth M.1 x = some (0, cn, na, M')) (hr : st[na]? = some (.ref a)) (ha : Nat.ble (a + 1) N = true) (hh : h a = .inr (cn, fs)) (h9 : (eRm (st.drop (na + 1)) && (st.take (na + 1)).all eN9) = true) (hargs : (st.take (na + 1)).reverse = args) (hrest : st.drop (na + 1) = r)
    (hcall : ∃ q, C M' args N h q ∧ ∃ y h', q = (.inl (some (vI y)), N, h', 0, 0) ∧ F y h') (kk : ∀ y h', F y h' → eWp ox C M (pc', lv, vI y :: r, N, h', k, z) P) : eWp ox C M (pc, lv, st, N, h, k, z) P := by
  subst hargs; subst hrest
  exact eW_callG pc' (eS_callV hc hm hr ha hh h9) hp hcall (fun q ⟨y, h', hq, hF⟩ => ⟨some (vI y), h', hq, rfl, kk y h' hF⟩)
theorem mOpQ_F {r : gO} {f : Int → Int} {v : Int} {s : Nat → Int} {A : Nat → Nat → Int} {h : eHp} {N : Nat} {q : eR} (k : mOpQ r f v s A h N q) : ∃ y h', q = (.inl (some (vI y)), N, h', 0, 0) ∧ ∃ s' A', mM h' s' A' ∧ mFr h h' ∧ mOp r f v s A s' A' y := by
  obtain ⟨h', s', A', x, e1, e2, e3, e4⟩ := k
  exact ⟨x, h', e1, s', A', e2, e3, e4⟩
def oOth (G : eGd) (p t : Int) : Int := if 0 < gIn G p - t then gIn G p - t else 0
theorem oOth_le {c : Int} {G : eGd} (hI : gI c G) {p t : Int} (ht : 0 ≤ t) : 0 ≤ oOth G p t ∧ oOth G p t ≤ 40 := by
  have := gIn_le hI.1 p
  unfold oOth
  split <;> omega
def oLft (G : eGd) (T : eTx) (i : Int) : Int := if tNo T i 2 < 0 then oOth G (tNo T i 0) (tNo T i 1) else tNo T i 2
/-- an order that was read -/
def oOrd (G : eGd) (T : eTx) (i : Int) : gO := if tKind T i = 112 then oPit G (tNo T i 0) else if tKind T i = 99 then oDig G (tNo T i 0) (tNo T i 1) else if tKind T i = 115 then oScp G (tNo T i 0) (tNo T i 1) (oLft G T i) else oNxt G
def cOf (k : Int) : Int → Int := if k = 110 then cNx else if k = 115 then cSc else cPD
def gRn (T : eTx) : Nat → Int → eGd → gO
  | 0, _, G => (0, 0, 0, G)
  | n + 1, i, G => match decide ((oOrd G T i).1 = 0) with | true => gRn T n (i + 1) (oOrd G T i).2.2.2 | false => oOrd G T i
theorem gRn_t {T : eTx} {i k : Int} {G : eGd} (hk : 0 < k) (h : (oOrd G T i).1 = 0) : gRn T k.toNat i G = gRn T (k - 1).toNat (i + 1) (oOrd G T i).2.2.2 := by
  rw [show k.toNat = (k - 1).toNat + 1 by omega]
  show (match decide ((oOrd G T i).1 = 0) with | true => gRn T (k - 1).toNat (i + 1) (oOrd G T i).2.2.2 | false => oOrd G T i) = _
  rw [decide_eq_true h]
theorem gRn_f {T : eTx} {i k : Int} {G : eGd} (hk : 0 < k) (h : (oOrd G T i).1 ≠ 0) : gRn T k.toNat i G = oOrd G T i := by
  rw [show k.toNat = (k - 1).toNat + 1 by omega]
  show (match decide ((oOrd G T i).1 = 0) with | true => gRn T (k - 1).toNat (i + 1) (oOrd G T i).2.2.2 | false => oOrd G T i) = _
  rw [decide_eq_false h]
theorem gRn_0 {T : eTx} {i k : Int} {G : eGd} (hk : k ≤ 0) : gRn T k.toNat i G = (0, 0, 0, G) := by rw [show k.toNat = 0 by omega]; rfl
/-- how orders end -/
theorem oPit_e (G : eGd) (n : Int) : (oPit G n).1 = 0 ∨ (oPit G n).1 = 2 ∨ (oPit G n).1 = 3 := by unfold oPit; split; split; exact Or.inr (Or.inr rfl); exact Or.inl rfl; exact Or.inr (Or.inl rfl)
theorem oDig_e (G : eGd) (t x : Int) : (oDig G t x).1 = 0 ∨ (oDig G t x).1 = 2 ∨ (oDig G t x).1 = 3 := by unfold oDig; split; split; exact Or.inr (Or.inr rfl); exact Or.inl rfl; exact Or.inr (Or.inl rfl)
theorem oScp_e (G : eGd) (p t l : Int) : (oScp G p t l).1 = 0 ∨ (oScp G p t l).1 = 1 ∨ (oScp G p t l).1 = 2 ∨ (oScp G p t l).1 = 3 := by
  unfold oScp
  split
  · split
    · split
      · exact Or.inr (Or.inr (Or.inr rfl))
      · split
        · exact Or.inl rfl
        · exact Or.inr (Or.inr (Or.inr rfl))
    · exact Or.inr (Or.inr (Or.inl rfl))
  · exact Or.inr (Or.inl rfl)
theorem oNxt_e (G : eGd) : (oNxt G).1 = 0 ∨ (oNxt G).1 = 3 := by unfold oNxt; split; exact Or.inr rfl; exact Or.inl rfl
def oRef (k : Int) : Int := if k = 110 then 1 else if k = 115 then 3 else 2
theorem oOrd_c {G : eGd} {T : eTx} {i : Int} (hk : tIs (tKind T i) = true) : ((oOrd G T i).1 = 0 ∧ cOf (tKind T i) (oOrd G T i).1 = 0) ∨ ((oOrd G T i).1 = 3 ∧ cOf (tKind T i) (oOrd G T i).1 = oRef (tKind T i) ∧ 1 ≤ oRef (tKind T i) ∧ oRef (tKind T i) ≤ 3) ∨ (((oOrd G T i).1 = 1 ∨ (oOrd G T i).1 = 2) ∧ cOf (tKind T i) (oOrd G T i).1 ≠ oRef (tKind T i) ∧ 1 ≤ cOf (tKind T i) (oOrd G T i).1 ∧ cOf (tKind T i) (oOrd G T i).1 ≤ 3) := by
  have h := of_decide_eq_true hk
  unfold oOrd
  rcases h with h | h | h | h <;> rw [h]
  · rcases oPit_e G (tNo T i 0) with e | e | e
    · rw [if_pos rfl, e]; exact Or.inl ⟨rfl, rfl⟩
    · rw [if_pos rfl, e]; exact Or.inr (Or.inr ⟨Or.inr rfl, by decide, by decide, by decide⟩)
    · rw [if_pos rfl, e]; exact Or.inr (Or.inl ⟨rfl, rfl, by decide, by decide⟩)
  · rcases oDig_e G (tNo T i 0) (tNo T i 1) with e | e | e
    · rw [if_neg (by decide), if_pos rfl, e]; exact Or.inl ⟨rfl, rfl⟩
    · rw [if_neg (by decide), if_pos rfl, e]; exact Or.inr (Or.inr ⟨Or.inr rfl, by decide, by decide, by decide⟩)
    · rw [if_neg (by decide), if_pos rfl, e]; exact Or.inr (Or.inl ⟨rfl, rfl, by decide, by decide⟩)
  · rcases oScp_e G (tNo T i 0) (tNo T i 1) (oLft G T i) with e | e | e | e
    · rw [if_neg (by decide), if_neg (by decide), if_pos rfl, e]; exact Or.inl ⟨rfl, rfl⟩
    · rw [if_neg (by decide), if_neg (by decide), if_pos rfl, e]; exact Or.inr (Or.inr ⟨Or.inl rfl, by decide, by decide, by decide⟩)
    · rw [if_neg (by decide), if_neg (by decide), if_pos rfl, e]; exact Or.inr (Or.inr ⟨Or.inr rfl, by decide, by decide, by decide⟩)
    · rw [if_neg (by decide), if_neg (by decide), if_pos rfl, e]; exact Or.inr (Or.inl ⟨rfl, rfl, by decide, by decide⟩)
  · rcases oNxt_e G with e | e
    · rw [if_neg (by decide), if_neg (by decide), if_neg (by decide), e]; exact Or.inl ⟨rfl, rfl⟩
    · rw [if_neg (by decide), if_neg (by decide), if_neg (by decide), e]; exact Or.inr (Or.inl ⟨rfl, rfl, by decide, by decide⟩)
theorem gI_o {c : Int} {G : eGd} (hI : gI c G) : gI (c + 1) G := gI_mono (by omega) hI
theorem gI_oPit {c : Int} {G : eGd} (hI : gI c G) (n : Int) : gI (c + 1) (oPit G n).2.2.2 := by
  unfold oPit
  split
  · rename_i h
    split
    · exact gI_o hI
    · rename_i h2; exact gI_pit hI h (by omega)
  · exact gI_o hI
theorem gI_oDig {c : Int} {G : eGd} (hI : gI c G) (t x : Int) : gI (c + 1) (oDig G t x).2.2.2 := by
  unfold oDig
  split
  · rename_i h
    split
    · exact gI_o hI
    · exact gI_mono (by omega) (gI_dig hI h.2)
  · exact gI_o hI
theorem gI_oScp {c : Int} {G : eGd} (hI : gI c G) (p t l : Int) : gI (c + 1) (oScp G p t l).2.2.2 := by
  unfold oScp
  split
  · rename_i h
    split
    · rename_i h2
      split
      · exact gI_o hI
      · split
        · rename_i h4; exact gI_make hI ⟨h, h2.1, h4⟩
        · exact gI_o hI
    · exact gI_o hI
  · exact gI_o hI
theorem gI_oNxt {c : Int} {G : eGd} (hI : gI c G) : gI (c + 1) (oNxt G).2.2.2 := by
  unfold oNxt
  split
  · exact gI_o hI
  · exact gI_next hI
theorem gI_oOrd {c : Int} {G : eGd} (hI : gI c G) (T : eTx) (i : Int) : gI (c + 1) (oOrd G T i).2.2.2 := by
  unfold oOrd
  split
  · exact gI_oPit hI _
  · split
    · exact gI_oDig hI _ _
    · split
      · exact gI_oScp hI _ _ _
      · exact gI_oNxt hI
theorem gI_oPly {c : Int} {G : eGd} (hI : gI c G) : gI (c + 1) (oPly G).2.2.2 := by
  unfold oPly
  cases h : gTd G with
  | none => exact gI_o hI
  | some S => have := (gTd_mem hI.1.1 h).1; exact gI_make hI ⟨⟨this.1, this.2.1⟩, ⟨this.2.2.1, this.2.2.2.1⟩, this.2.2.2.2⟩
theorem gI_gRn {T : eTx} : ∀ (n : Nat) {c i : Int} {G : eGd}, gI c G → gI (c + n) (gRn T n i G).2.2.2
  | 0, c, i, G, h => by rw [show c + ((0 : Nat) : Int) = c by omega]; exact h
  | n + 1, c, i, G, h => by
    show gI _ (match decide ((oOrd G T i).1 = 0) with | true => gRn T n (i + 1) (oOrd G T i).2.2.2 | false => oOrd G T i).2.2.2
    cases decide ((oOrd G T i).1 = 0) with
    | true => have := gI_gRn (T := T) n (i := i + 1) (gI_oOrd h T i); rw [show c + ((n + 1 : Nat) : Int) = c + 1 + n by omega]; exact this
    | false => exact gI_mono (by omega) (gI_oOrd h T i)
theorem rR_congr {G : eGd} {g g' : Nat → Int} (h0 : G.2.2.2.1 ≤ 40) (hg : ∀ j, j < 62 → g' j = g j) (hr : rR G g) : rR G g' := by
  obtain ⟨r0, r1, r2, r3, r4, r5, r6, r7, r8, r9, r10⟩ := hr
  exact ⟨(hg 0 (by decide)).trans r0, (hg 1 (by decide)).trans r1, (hg 2 (by decide)).trans r2, (hg 3 (by decide)).trans r3, (hg 4 (by decide)).trans r4, (hg 5 (by decide)).trans r5, (hg 6 (by decide)).trans r6, (hg 7 (by decide)).trans r7, fun i hi => (hg _ (by omega)).trans (r8 i hi), fun i hi => (hg _ (by omega)).trans (r9 i hi), fun i hi => (hg _ (by omega)).trans (r10 i hi)⟩
theorem kU_congr {ch ch' : Int} {K R R' K' : Nat → Int} (hR : ∀ j, j < 62 → R j = R' j) (h : kU ch K R ch' K') : kU ch K R' ch' K' :=
  ⟨fun e => ⟨(h.1 e).1, (h.1 e).2.1, fun j hj => ((h.1 e).2.2 j hj).trans (hR j hj)⟩, fun e => ⟨(h.2 e).1, (h.2 e).2.1, fun j hj => ((h.2 e).2.2 j hj).trans (hR j hj)⟩⟩
def mSR (s : Nat → Int) (A : Nat → Nat → Int) (s1 : Nat → Int) (A1 : Nat → Nat → Int) : Prop := A1 1 = A 1 ∧ A1 2 = A 2 ∧ A1 3 = A 3 ∧ A1 4 = A 4 ∧ A1 5 = A 5 ∧ A1 8 = A 8 ∧ s1 4 = s 4 ∧ s1 5 = s 5 ∧ s1 6 = s 6 ∧ s1 11 = s 11 ∧ s1 12 = s 12 ∧ s1 14 = s 14 ∧ s1 22 = s 22
theorem m_others {d N : Nat} {h : eHp} {s : Nat → Int} {A : Nat → Nat → Int} (hm : mM h s A) (hN : 75 ≤ N) {c : Int} {G : eGd} (hr : rR G (A 0)) (hI : gI c G) {p t : Int} (hp0 : -1 ≤ p ∧ p ≤ 99) (ht0 : 0 ≤ t ∧ t ≤ 99) : eSp (d + 3) eM_X7_others [.ref 63, vI p, vI t] N h (eRet (some (vI (oOth G p t))) N h) := by
  refine eSp_of [(0, .ref 63), (1, vI p), (2, vI t)] rfl rfl ?_
  have hG := hI.1
  have hG9 := hG
  obtain ⟨g1, g2, g3, g4⟩ := hG9
  have hh := gHas_c G p
  have hmp := hI.2.2.1 p.toNat
  refine eW_aload_n 1 rfl rfl rfl ?_
  refine eW_iload_n 2 rfl rfl rfl ?_
  have hipq1 := gHas_c G p
  refine eW_callV 5 [.ref 63, vI p] [] [vI (eB01 (gHas G p))] rfl rfl rfl rfl (Nat.ble_eq_true_of_le (by omega)) hm.1 rfl rfl rfl (m_isPit (d := d + 0) hm hN hr hG (by unfold i32; omega)) rfl rfl ?_
  refine eW_if_eq 8 rfl rfl (by unfold i32; omega) (fun c2 => ?_) (fun c2 => ?_)
  · refine eW_iconst 18 rfl rfl ?_
    refine eW_ret_i rfl rfl (Or.inl rfl) ?_
    refine eRet_i ?_
    unfold oOth
    first | (rw [gIn_t (by omega) (by omega)]; split <;> omega) | (rw [show gIn G p = 0 from by unfold gIn; rw [gHas_f (by omega)]]; split <;> omega)
  · refine eW_aload_n 9 rfl rfl rfl ?_
    refine eW_iload_n 10 rfl rfl rfl ?_
    have hmbq3 := g3 p.toNat (by omega)
    refine eW_callV 13 [.ref 63, vI p] [] [vI (G.1 p.toNat)] rfl rfl rfl rfl (Nat.ble_eq_true_of_le (by omega)) hm.1 rfl rfl rfl (m_marbles (d := d + 1) hm hN hr hG (by omega)) rfl rfl ?_
    refine eW_iload_n 14 rfl rfl rfl ?_
    refine eW_icmp_ge 17 rfl rfl (by unfold i32; omega) (by unfold i32; omega) (fun c4 => ?_) (fun c4 => ?_)
    · refine eW_aload_n 20 rfl rfl rfl ?_
      refine eW_iload_n 21 rfl rfl rfl ?_
      have hmbq5 := g3 p.toNat (by omega)
      refine eW_callV 24 [.ref 63, vI p] [] [vI (G.1 p.toNat)] rfl rfl rfl rfl (Nat.ble_eq_true_of_le (by omega)) hm.1 rfl rfl rfl (m_marbles (d := d + 1) hm hN hr hG (by omega)) rfl rfl ?_
      refine eW_iload_n 25 rfl rfl rfl ?_
      refine eW_isub 26 rfl rfl ?_
      refine eW_ret_i rfl rfl (Or.inl rfl) ?_
      refine eRet_i ?_
      unfold oOth
      first | (rw [gIn_t (by omega) (by omega)]; split <;> omega) | (rw [show gIn G p = 0 from by unfold gIn; rw [gHas_f (by omega)]]; split <;> omega)
    · refine eW_iconst 18 rfl rfl ?_
      refine eW_ret_i rfl rfl (Or.inl rfl) ?_
      refine eRet_i ?_
      unfold oOth
      first | (rw [gIn_t (by omega) (by omega)]; split <;> omega) | (rw [show gIn G p = 0 from by unfold gIn; rw [gHas_f (by omega)]]; split <;> omega)
theorem m_carries_112 {d N : Nat} {h : eHp} {s : Nat → Int} {A : Nat → Nat → Int} (hm : mM h s A) (hN : 75 ≤ N) {c : Int} {G : eGd} (hr : rR G (A 0)) (hI : gI c G) (hw6 : s 6 = 0 ∨ s 6 = 1) (hw5 : 0 ≤ s 5 ∧ s 5 ≤ 8) {T : eTx} {i : Int} (hTO : gTO T) (hi : 0 ≤ i ∧ i < 30) (hrow : oOk T (A 8) i) (hkd : tKind T i = 112) : eSp (d + 5) eM_X7_carries [.ref 63, vI (4 * i)] N h (fun q => ∃ v, mOpQ (oOrd G T i) (cOf (tKind T i)) v s A h N q) := by
  refine eSp_of [(0, .ref 63), (1, vI (4 * i))] rfl rfl ?_
  have hG := hI.1
  have hG9 := hG
  obtain ⟨g1, g2, g3, g4⟩ := hG9
  have hn0 := tNo_le hTO i 0
  have hn1 := tNo_le hTO i 1
  have hn2 := tNo_le hTO i 2
  have hoo := fun (ht : 0 ≤ tNo T i 1) => oOth_le hI (p := tNo T i 0) ht
  have ho9 : oOrd G T i = oPit G (tNo T i 0) := by unfold oOrd; rw [hkd]; rfl
  refine eW_aload_n 1 rfl rfl rfl ?_
  refine eW_getfield 4 rfl rfl (Nat.ble_eq_true_of_le (by omega)) rfl hm.1 rfl ⟨rfl, fun _ h9 => nomatch h9⟩ ?_
  refine eW_iload_n 5 rfl rfl rfl ?_
  refine eW_iaload 6 rfl rfl 112 (Nat.ble_eq_true_of_le (by omega)) (show h 72 = .inl (0, 124, .inl (eIA (A 8))) from hm.2.2.2.2.2.2.2.2.2) (by omega) (by omega) (by unfold i32; omega) (congrArg Int32.ofInt (hrow.1.trans hkd)) ?_
  refine eW_lookup 45 rfl (by decide) ?_
  refine eW_aload_n 46 rfl rfl rfl ?_
  refine eW_aload_n 47 rfl rfl rfl ?_
  refine eW_getfield 50 rfl rfl (Nat.ble_eq_true_of_le (by omega)) rfl hm.1 rfl ⟨rfl, fun _ h9 => nomatch h9⟩ ?_
  refine eW_iload_n 51 rfl rfl rfl ?_
  refine eW_iconst 52 rfl rfl ?_
  refine eW_iadd 53 rfl rfl ?_
  refine eW_iaload 54 rfl rfl (tNo T i 0) (Nat.ble_eq_true_of_le (by omega)) (show h 72 = .inl (0, 124, .inl (eIA (A 8))) from hm.2.2.2.2.2.2.2.2.2) (by omega) (by omega) (by unfold i32; omega) (congrArg Int32.ofInt (hrow.2.2.1 hkd)) ?_
  refine eW_callVR 57 [.ref 63, vI (tNo T i 0)] [] rfl rfl rfl rfl (Nat.ble_eq_true_of_le (by omega)) hm.1 rfl rfl rfl (eSp.imp (m_pit (d := d + 0) hm hN hr hI hw6 hw5 (by unfold i32; omega)) (fun _ e => mOpQ_F e)) ?_
  intro x2 h1 fh1
  obtain ⟨sh1, Ah1, hmh1, gh1, oph1⟩ := fh1
  have frh1 := mFr_t (fun _ _ => rfl) gh1
  refine eW_ret_i rfl rfl (Or.inl rfl) ?_
  exact ⟨_, _, _, _, _, rfl, hmh1, frh1, by rw [ho9, hkd]; exact oph1⟩
theorem m_carries_99 {d N : Nat} {h : eHp} {s : Nat → Int} {A : Nat → Nat → Int} (hm : mM h s A) (hN : 75 ≤ N) {c : Int} {G : eGd} (hr : rR G (A 0)) (hI : gI c G) (hw6 : s 6 = 0 ∨ s 6 = 1) (hw5 : 0 ≤ s 5 ∧ s 5 ≤ 8) {T : eTx} {i : Int} (hTO : gTO T) (hi : 0 ≤ i ∧ i < 30) (hrow : oOk T (A 8) i) (hkd : tKind T i = 99) : eSp (d + 5) eM_X7_carries [.ref 63, vI (4 * i)] N h (fun q => ∃ v, mOpQ (oOrd G T i) (cOf (tKind T i)) v s A h N q) := by
  refine eSp_of [(0, .ref 63), (1, vI (4 * i))] rfl rfl ?_
  have hG := hI.1
  have hG9 := hG
  obtain ⟨g1, g2, g3, g4⟩ := hG9
  have hn0 := tNo_le hTO i 0
  have hn1 := tNo_le hTO i 1
  have hn2 := tNo_le hTO i 2
  have hoo := fun (ht : 0 ≤ tNo T i 1) => oOth_le hI (p := tNo T i 0) ht
  have ho9 : oOrd G T i = oDig G (tNo T i 0) (tNo T i 1) := by unfold oOrd; rw [hkd]; rfl
  refine eW_aload_n 1 rfl rfl rfl ?_
  refine eW_getfield 4 rfl rfl (Nat.ble_eq_true_of_le (by omega)) rfl hm.1 rfl ⟨rfl, fun _ h9 => nomatch h9⟩ ?_
  refine eW_iload_n 5 rfl rfl rfl ?_
  refine eW_iaload 6 rfl rfl 99 (Nat.ble_eq_true_of_le (by omega)) (show h 72 = .inl (0, 124, .inl (eIA (A 8))) from hm.2.2.2.2.2.2.2.2.2) (by omega) (by omega) (by unfold i32; omega) (congrArg Int32.ofInt (hrow.1.trans hkd)) ?_
  refine eW_lookup 58 rfl (by decide) ?_
  refine eW_aload_n 59 rfl rfl rfl ?_
  refine eW_aload_n 60 rfl rfl rfl ?_
  refine eW_getfield 63 rfl rfl (Nat.ble_eq_true_of_le (by omega)) rfl hm.1 rfl ⟨rfl, fun _ h9 => nomatch h9⟩ ?_
  refine eW_iload_n 64 rfl rfl rfl ?_
  refine eW_iconst 65 rfl rfl ?_
  refine eW_iadd 66 rfl rfl ?_
  refine eW_iaload 67 rfl rfl (tNo T i 0) (Nat.ble_eq_true_of_le (by omega)) (show h 72 = .inl (0, 124, .inl (eIA (A 8))) from hm.2.2.2.2.2.2.2.2.2) (by omega) (by omega) (by unfold i32; omega) (congrArg Int32.ofInt (hrow.2.2.2.1 hkd).1) ?_
  refine eW_aload_n 68 rfl rfl rfl ?_
  refine eW_getfield 71 rfl rfl (Nat.ble_eq_true_of_le (by omega)) rfl hm.1 rfl ⟨rfl, fun _ h9 => nomatch h9⟩ ?_
  refine eW_iload_n 72 rfl rfl rfl ?_
  refine eW_iconst 73 rfl rfl ?_
  refine eW_iadd 74 rfl rfl ?_
  refine eW_iaload 75 rfl rfl (tNo T i 1) (Nat.ble_eq_true_of_le (by omega)) (show h 72 = .inl (0, 124, .inl (eIA (A 8))) from hm.2.2.2.2.2.2.2.2.2) (by omega) (by omega) (by unfold i32; omega) (congrArg Int32.ofInt (hrow.2.2.2.1 hkd).2) ?_
  refine eW_callVR 78 [.ref 63, vI (tNo T i 0), vI (tNo T i 1)] [] rfl rfl rfl rfl (Nat.ble_eq_true_of_le (by omega)) hm.1 rfl rfl rfl (eSp.imp (m_digit (d := d + 1) hm hN hr hI hw6 hw5 (by unfold i32; omega) (by unfold i32; omega)) (fun _ e => mOpQ_F e)) ?_
  intro x2 h1 fh1
  obtain ⟨sh1, Ah1, hmh1, gh1, oph1⟩ := fh1
  have frh1 := mFr_t (fun _ _ => rfl) gh1
  refine eW_ret_i rfl rfl (Or.inl rfl) ?_
  exact ⟨_, _, _, _, _, rfl, hmh1, frh1, by rw [ho9, hkd]; exact oph1⟩
theorem m_carries_115 {d N : Nat} {h : eHp} {s : Nat → Int} {A : Nat → Nat → Int} (hm : mM h s A) (hN : 75 ≤ N) {c : Int} {G : eGd} (hr : rR G (A 0)) (hI : gI c G) (hw6 : s 6 = 0 ∨ s 6 = 1) (hw5 : 0 ≤ s 5 ∧ s 5 ≤ 8) {T : eTx} {i : Int} (hTO : gTO T) (hi : 0 ≤ i ∧ i < 30) (hrow : oOk T (A 8) i) (hkd : tKind T i = 115) : eSp (d + 5) eM_X7_carries [.ref 63, vI (4 * i)] N h (fun q => ∃ v, mOpQ (oOrd G T i) (cOf (tKind T i)) v s A h N q) := by
  refine eSp_of [(0, .ref 63), (1, vI (4 * i))] rfl rfl ?_
  have hG := hI.1
  have hG9 := hG
  obtain ⟨g1, g2, g3, g4⟩ := hG9
  have hn0 := tNo_le hTO i 0
  have hn1 := tNo_le hTO i 1
  have hn2 := tNo_le hTO i 2
  have hoo := fun (ht : 0 ≤ tNo T i 1) => oOth_le hI (p := tNo T i 0) ht
  have ho9 : oOrd G T i = oScp G (tNo T i 0) (tNo T i 1) (oLft G T i) := by unfold oOrd; rw [hkd]; rfl
  have hn3 := (hrow.2.2.2.2 hkd).2.2.2
  have hoo2 := hoo hn3
  refine eW_aload_n 1 rfl rfl rfl ?_
  refine eW_getfield 4 rfl rfl (Nat.ble_eq_true_of_le (by omega)) rfl hm.1 rfl ⟨rfl, fun _ h9 => nomatch h9⟩ ?_
  refine eW_iload_n 5 rfl rfl rfl ?_
  refine eW_iaload 6 rfl rfl 115 (Nat.ble_eq_true_of_le (by omega)) (show h 72 = .inl (0, 124, .inl (eIA (A 8))) from hm.2.2.2.2.2.2.2.2.2) (by omega) (by omega) (by unfold i32; omega) (congrArg Int32.ofInt (hrow.1.trans hkd)) ?_
  refine eW_lookup 79 rfl (by decide) ?_
  refine eW_aload_n 80 rfl rfl rfl ?_
  refine eW_aload_n 81 rfl rfl rfl ?_
  refine eW_getfield 84 rfl rfl (Nat.ble_eq_true_of_le (by omega)) rfl hm.1 rfl ⟨rfl, fun _ h9 => nomatch h9⟩ ?_
  refine eW_iload_n 85 rfl rfl rfl ?_
  refine eW_iconst 86 rfl rfl ?_
  refine eW_iadd 87 rfl rfl ?_
  refine eW_iaload 88 rfl rfl (tNo T i 0) (Nat.ble_eq_true_of_le (by omega)) (show h 72 = .inl (0, 124, .inl (eIA (A 8))) from hm.2.2.2.2.2.2.2.2.2) (by omega) (by omega) (by unfold i32; omega) (congrArg Int32.ofInt (hrow.2.2.2.2 hkd).1) ?_
  refine eW_aload_n 89 rfl rfl rfl ?_
  refine eW_getfield 92 rfl rfl (Nat.ble_eq_true_of_le (by omega)) rfl hm.1 rfl ⟨rfl, fun _ h9 => nomatch h9⟩ ?_
  refine eW_iload_n 93 rfl rfl rfl ?_
  refine eW_iconst 94 rfl rfl ?_
  refine eW_iadd 95 rfl rfl ?_
  refine eW_iaload 96 rfl rfl (tNo T i 1) (Nat.ble_eq_true_of_le (by omega)) (show h 72 = .inl (0, 124, .inl (eIA (A 8))) from hm.2.2.2.2.2.2.2.2.2) (by omega) (by omega) (by unfold i32; omega) (congrArg Int32.ofInt (hrow.2.2.2.2 hkd).2.1) ?_
  refine eW_aload_n 97 rfl rfl rfl ?_
  refine eW_getfield 100 rfl rfl (Nat.ble_eq_true_of_le (by omega)) rfl hm.1 rfl ⟨rfl, fun _ h9 => nomatch h9⟩ ?_
  refine eW_iload_n 101 rfl rfl rfl ?_
  refine eW_iconst 102 rfl rfl ?_
  refine eW_iadd 103 rfl rfl ?_
  refine eW_iaload 104 rfl rfl (tNo T i 2) (Nat.ble_eq_true_of_le (by omega)) (show h 72 = .inl (0, 124, .inl (eIA (A 8))) from hm.2.2.2.2.2.2.2.2.2) (by omega) (by omega) (by unfold i32; omega) (congrArg Int32.ofInt (hrow.2.2.2.2 hkd).2.2.1) ?_
  refine eW_if_ge 107 rfl rfl (by unfold i32; omega) (fun c1 => ?_) (fun c1 => ?_)
  · refine eW_aload_n 131 rfl rfl rfl ?_
    refine eW_getfield 134 rfl rfl (Nat.ble_eq_true_of_le (by omega)) rfl hm.1 rfl ⟨rfl, fun _ h9 => nomatch h9⟩ ?_
    refine eW_iload_n 135 rfl rfl rfl ?_
    refine eW_iconst 136 rfl rfl ?_
    refine eW_iadd 137 rfl rfl ?_
    refine eW_iaload 138 rfl rfl (tNo T i 2) (Nat.ble_eq_true_of_le (by omega)) (show h 72 = .inl (0, 124, .inl (eIA (A 8))) from hm.2.2.2.2.2.2.2.2.2) (by omega) (by omega) (by unfold i32; omega) (congrArg Int32.ofInt (hrow.2.2.2.2 hkd).2.2.1) ?_
    have hlf := (show tNo T i 2 = oLft G T i from (if_neg (by omega)).symm)
    refine eW_callVR 141 [.ref 63, vI (tNo T i 0), vI (tNo T i 1), vI (tNo T i 2)] [] rfl rfl rfl rfl (Nat.ble_eq_true_of_le (by omega)) hm.1 rfl rfl rfl (eSp.imp (m_scoop (d := d + 0) hm hN hr hI hw6 hw5 (by unfold i32; omega) (by unfold i32; omega) (by unfold i32; omega)) (fun _ e => mOpQ_F (by rw [hlf] at e; exact e))) ?_
    intro x3 h2 fh2
    obtain ⟨sh2, Ah2, hmh2, gh2, oph2⟩ := fh2
    have frh2 := mFr_t (fun _ _ => rfl) gh2
    refine eW_ret_i rfl rfl (Or.inl rfl) ?_
    exact ⟨_, _, _, _, _, rfl, hmh2, frh2, by rw [ho9, hkd]; exact oph2⟩
  · refine eW_aload_n 108 rfl rfl rfl ?_
    refine eW_aload_n 109 rfl rfl rfl ?_
    refine eW_getfield 112 rfl rfl (Nat.ble_eq_true_of_le (by omega)) rfl hm.1 rfl ⟨rfl, fun _ h9 => nomatch h9⟩ ?_
    refine eW_iload_n 113 rfl rfl rfl ?_
    refine eW_iconst 114 rfl rfl ?_
    refine eW_iadd 115 rfl rfl ?_
    refine eW_iaload 116 rfl rfl (tNo T i 0) (Nat.ble_eq_true_of_le (by omega)) (show h 72 = .inl (0, 124, .inl (eIA (A 8))) from hm.2.2.2.2.2.2.2.2.2) (by omega) (by omega) (by unfold i32; omega) (congrArg Int32.ofInt (hrow.2.2.2.2 hkd).1) ?_
    refine eW_aload_n 117 rfl rfl rfl ?_
    refine eW_getfield 120 rfl rfl (Nat.ble_eq_true_of_le (by omega)) rfl hm.1 rfl ⟨rfl, fun _ h9 => nomatch h9⟩ ?_
    refine eW_iload_n 121 rfl rfl rfl ?_
    refine eW_iconst 122 rfl rfl ?_
    refine eW_iadd 123 rfl rfl ?_
    refine eW_iaload 124 rfl rfl (tNo T i 1) (Nat.ble_eq_true_of_le (by omega)) (show h 72 = .inl (0, 124, .inl (eIA (A 8))) from hm.2.2.2.2.2.2.2.2.2) (by omega) (by omega) (by unfold i32; omega) (congrArg Int32.ofInt (hrow.2.2.2.2 hkd).2.1) ?_
    refine eW_callV 127 [.ref 63, vI (tNo T i 0), vI (tNo T i 1)] [vI (tNo T i 1), vI (tNo T i 0), .ref 63] [vI (oOth G (tNo T i 0) (tNo T i 1)), vI (tNo T i 1), vI (tNo T i 0), .ref 63] rfl rfl rfl rfl (Nat.ble_eq_true_of_le (by omega)) hm.1 rfl rfl rfl (m_others (d := d + 1) hm hN hr hI (by omega) (by omega)) rfl rfl ?_
    refine eW_goto rfl ?_
    have hlf := (show oOth G (tNo T i 0) (tNo T i 1) = oLft G T i from (if_pos (by omega)).symm)
    refine eW_callVR 141 [.ref 63, vI (tNo T i 0), vI (tNo T i 1), vI (oOth G (tNo T i 0) (tNo T i 1))] [] rfl rfl rfl rfl (Nat.ble_eq_true_of_le (by omega)) hm.1 rfl rfl rfl (eSp.imp (m_scoop (d := d + 0) hm hN hr hI hw6 hw5 (by unfold i32; omega) (by unfold i32; omega) (by unfold i32; omega)) (fun _ e => mOpQ_F (by rw [hlf] at e; exact e))) ?_
    intro x5 h4 fh4
    obtain ⟨sh4, Ah4, hmh4, gh4, oph4⟩ := fh4
    have frh4 := mFr_t (fun _ _ => rfl) gh4
    refine eW_ret_i rfl rfl (Or.inl rfl) ?_
    exact ⟨_, _, _, _, _, rfl, hmh4, frh4, by rw [ho9, hkd]; exact oph4⟩
theorem m_carries_110 {d N : Nat} {h : eHp} {s : Nat → Int} {A : Nat → Nat → Int} (hm : mM h s A) (hN : 75 ≤ N) {c : Int} {G : eGd} (hr : rR G (A 0)) (hI : gI c G) (hw6 : s 6 = 0 ∨ s 6 = 1) (hw5 : 0 ≤ s 5 ∧ s 5 ≤ 8) {T : eTx} {i : Int} (hTO : gTO T) (hi : 0 ≤ i ∧ i < 30) (hrow : oOk T (A 8) i) (hkd : tKind T i = 110) : eSp (d + 5) eM_X7_carries [.ref 63, vI (4 * i)] N h (fun q => ∃ v, mOpQ (oOrd G T i) (cOf (tKind T i)) v s A h N q) := by
  refine eSp_of [(0, .ref 63), (1, vI (4 * i))] rfl rfl ?_
  have hG := hI.1
  have hG9 := hG
  obtain ⟨g1, g2, g3, g4⟩ := hG9
  have hn0 := tNo_le hTO i 0
  have hn1 := tNo_le hTO i 1
  have hn2 := tNo_le hTO i 2
  have hoo := fun (ht : 0 ≤ tNo T i 1) => oOth_le hI (p := tNo T i 0) ht
  have ho9 : oOrd G T i = oNxt G := by unfold oOrd; rw [hkd]; rfl
  refine eW_aload_n 1 rfl rfl rfl ?_
  refine eW_getfield 4 rfl rfl (Nat.ble_eq_true_of_le (by omega)) rfl hm.1 rfl ⟨rfl, fun _ h9 => nomatch h9⟩ ?_
  refine eW_iload_n 5 rfl rfl rfl ?_
  refine eW_iaload 6 rfl rfl 110 (Nat.ble_eq_true_of_le (by omega)) (show h 72 = .inl (0, 124, .inl (eIA (A 8))) from hm.2.2.2.2.2.2.2.2.2) (by omega) (by omega) (by unfold i32; omega) (congrArg Int32.ofInt (hrow.1.trans hkd)) ?_
  refine eW_lookup 40 rfl (by decide) ?_
  refine eW_aload_n 41 rfl rfl rfl ?_
  refine eW_callVR 44 [.ref 63] [] rfl rfl rfl rfl (Nat.ble_eq_true_of_le (by omega)) hm.1 rfl rfl rfl (eSp.imp (m_next (d := d + 0) hm hN hr hI hw6 hw5) (fun _ e => mOpQ_F e)) ?_
  intro x2 h1 fh1
  obtain ⟨sh1, Ah1, hmh1, gh1, oph1⟩ := fh1
  have frh1 := mFr_t (fun _ _ => rfl) gh1
  refine eW_ret_i rfl rfl (Or.inl rfl) ?_
  exact ⟨_, _, _, _, _, rfl, hmh1, frh1, by rw [ho9, hkd]; exact oph1⟩
theorem m_carries {d N : Nat} {h : eHp} {s : Nat → Int} {A : Nat → Nat → Int} (hm : mM h s A) (hN : 75 ≤ N) {c : Int} {G : eGd} (hr : rR G (A 0)) (hI : gI c G) (hw6 : s 6 = 0 ∨ s 6 = 1) (hw5 : 0 ≤ s 5 ∧ s 5 ≤ 8) {T : eTx} {i : Int} (hTO : gTO T) (hi : 0 ≤ i ∧ i < 30) (hrow : oOk T (A 8) i) : eSp (d + 5) eM_X7_carries [.ref 63, vI (4 * i)] N h (fun q => ∃ v, mOpQ (oOrd G T i) (cOf (tKind T i)) v s A h N q) := by
  rcases of_decide_eq_true hrow.2.1 with h9 | h9 | h9 | h9
  · exact m_carries_112 hm hN hr hI hw6 hw5 hTO hi hrow h9
  · exact m_carries_99 hm hN hr hI hw6 hw5 hTO hi hrow h9
  · exact m_carries_115 hm hN hr hI hw6 hw5 hTO hi hrow h9
  · exact m_carries_110 hm hN hr hI hw6 hw5 hTO hi hrow h9
