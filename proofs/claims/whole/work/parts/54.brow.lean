/-! more rows: what the line's builder needs -/
section WP3
variable {ox : Nat → Option (Nat × Nat × (Nat → Int32))} {C : eM → List Value → Nat → eHp → eR → Prop} {M : eM} {P : eR → Prop} {pc tg : Nat} {lv : eLv} {st : List Value} {N : Nat} {h : eHp} {k z : Nat}
theorem eNatI (n : Nat) : Int32.ofNat n = Int32.ofInt (n : Int) := by
  rw [← Int32.toBitVec_inj]
  simp only [Int32.toBitVec_ofInt, Int32.toBitVec_ofNat', BitVec.ofInt_natCast]
theorem eW_getstatic (pc' : Nat) {x : Nat} {v : Value} (hc : eLk pc M.2.2.2.2.2.2 = some (.getstatic x, tg)) (hp : pc + 3 = pc') (hv : eLk x (eStaL M.1) = some v) (kk : eWp ox C M (pc', lv, v :: st, N, h, k, z) P) : eWp ox C M (pc, lv, st, N, h, k, z) P := by
  subst hp
  refine eWp.go ?_ kk
  rw [eStep_eq hc]
  simp only [eDo, hv]; rfl
theorem eW_arraylength (pc' : Nat) {a q n : Nat} {f : Nat → Int32} (hc : eLk pc M.2.2.2.2.2.2 = some (.arraylength, tg)) (hp : pc + 1 = pc') (ha : Nat.ble (a + 1) N = true) (hh : h a = .inl (q, n, .inl f)) (hq : Nat.ble (q + 1) 4 = true) (kk : eWp ox C M (pc', lv, vI (n : Int) :: st, N, h, k, z) P) : eWp ox C M (pc, lv, .ref a :: st, N, h, k, z) P := by
  subst hp
  refine eWp.go ?_ kk
  rw [eStep_eq hc]
  simp only [eDo, eLen, ha, hh, hq]
  rw [eNatI]; rfl
theorem eW_ishr (pc' : Nat) {a b : Int} (hc : eLk pc M.2.2.2.2.2.2 = some (.ishr, tg)) (hp : pc + 1 = pc') (x : Int) (hx : Int32.ofInt a >>> (Int32.ofInt b &&& 31) = Int32.ofInt x) (kk : eWp ox C M (pc', lv, vI x :: st, N, h, k, z) P) : eWp ox C M (pc, lv, vI b :: vI a :: st, N, h, k, z) P := by
  subst hp
  refine eWp.go ?_ kk
  rw [eStep_eq hc]
  show eGo (pc + 1) lv (.int (Int32.ofInt a >>> (Int32.ofInt b &&& 31)) :: st) N h k z = _
  rw [hx]; rfl
theorem eW_ishl0 (pc' : Nat) {a b : Int} (hc : eLk pc M.2.2.2.2.2.2 = some (.ishl, tg)) (hp : pc + 1 = pc') (x : Int) (hx : Int32.ofInt a <<< (Int32.ofInt b &&& 31) = Int32.ofInt x) (kk : eWp ox C M (pc', lv, vI x :: st, N, h, k, z) P) : eWp ox C M (pc, lv, vI b :: vI a :: st, N, h, k, z) P := by
  subst hp
  refine eWp.go ?_ kk
  rw [eStep_eq hc]
  show eGo (pc + 1) lv (.int (Int32.ofInt a <<< (Int32.ofInt b &&& 31)) :: st) N h k z = _
  rw [hx]; rfl
theorem eShr0 (a : Int) : Int32.ofInt a >>> (Int32.ofInt 0 &&& 31) = Int32.ofInt a := by
  rw [show (Int32.ofInt 0 &&& 31 : Int32) = 0 from by decide]
  rw [← Int32.toBitVec_inj, Int32.toBitVec_shiftRight]
  rw [show (Int32.toBitVec 0).smod 32 = 0#32 from by decide]
  exact BitVec.sshiftRight_zero
theorem eShl0 (a : Int) : Int32.ofInt a <<< (Int32.ofInt 0 &&& 31) = Int32.ofInt a := by
  rw [show (Int32.ofInt 0 &&& 31 : Int32) = 0 from by decide]
  rw [← Int32.toBitVec_inj, Int32.toBitVec_shiftLeft]
  rw [show (Int32.toBitVec 0).smod 32 = 0#32 from by decide]
  exact BitVec.shiftLeft_zero _
theorem eW_baload_o (pc' : Nat) {j q n : Nat} {i : Int} {f : Nat → Int32} (hc : eLk pc M.2.2.2.2.2.2 = some (.baload, tg)) (hp : pc + 1 = pc') (x : Int) (hq : (Nat.beq q 2 || Nat.beq q 3) = true) (hh : ox j = some (q, n, f)) (h0 : 0 ≤ i) (h1 : i < n) (hi : i32 i) (hx : f i.toNat = Int32.ofInt x) (kk : eWp ox C M (pc', lv, vI x :: st, N, h, k, z) P) : eWp ox C M (pc, lv, vI i :: .retAddr j :: st, N, h, k, z) P := by
  subst hp
  refine eWp.go ?_ kk
  rw [eStep_eq hc]
  simp only [eDo, eAl, hh, hq, eIn_i h0 h1 hi, ofInt_nat32 hi, hx]
  rfl
theorem eW_bastoreB (pc' : Nat) {a n : Nat} {i x : Int} {F : Nat → Int} (hc : eLk pc M.2.2.2.2.2.2 = some (.bastore, tg)) (hp : pc + 1 = pc') (ha : Nat.ble (a + 1) N = true) (hh : h a = .inl (3, n, .inl (eIA F))) (h0 : 0 ≤ i) (h1 : i < n) (hi : i32 i) (hn : vp_nar .byte (Int32.ofInt x) = Int32.ofInt x)
    (kk : ∀ h' : eHp, h' a = .inl (3, n, .inl (eIA (eUp F i.toNat x))) → (∀ i, i ≠ a → h' i = h i) → eWp ox C M (pc', lv, st, N, h', k, z) P) : eWp ox C M (pc, lv, vI x :: vI i :: .ref a :: st, N, h, k, z) P := by
  subst hp
  refine eWp.go ?_ (kk (va_up h a (.inl (3, n, .inl (upd (eIA F) i.toNat (Int32.ofInt x))))) (by rw [va_up_self, eIA_up]) (fun i hi => va_up_ne _ _ hi))
  rw [eStep_eq hc]
  simp only [eDo, eAs, ha, hh, eIn_i h0 h1 hi, ofInt_nat32 hi, hn]
  rfl
theorem eW_newB (pc' : Nat) {n : Int} (hc : eLk pc M.2.2.2.2.2.2 = some (.newarray .byte, tg)) (hp : pc + 2 = pc') (hn : 0 ≤ n ∧ n ≤ 65536) (hcl : eClA N lv st h = true)
    (kk : ∀ h' : eHp, h' N = .inl (3, n.toNat, .inl (eIA (fun _ => 0))) → (∀ i, i ≠ N → h' i = h i) → eWp ox C M (pc', lv, .ref N :: st, N + 1, h', k + 1, z + n.toNat) P) : eWp ox C M (pc, lv, vI n :: st, N, h, k, z) P := by
  subst hp
  have hi : i32 n := by unfold i32; omega
  refine eWp.go ?_ (kk (va_up h N (.inl (3, n.toNat, .inl (fun _ => 0)))) (by rw [va_up_self]; rfl) (fun i hi => va_up_ne _ _ hi))
  rw [eStep_eq hc]
  have s1 : decide (Int32.ofInt n < 0) = false := by
    refine decide_eq_false ?_
    rw [show (0 : Int32) = Int32.ofInt 0 from rfl, ofInt_lt32 hi i32_zero]; omega
  have s2 : Nat.ble n.toNat 65536 = true := Nat.ble_eq_true_of_le (by omega)
  simp only [eDo, eNwa, s1, ofInt_nat32 hi, s2, Bool.not_false, Bool.and_self, eMk, hcl]
  rfl
def gMin (a b : Int) : Int := if b < a then b else a
theorem eW_min (pc' : Nat) {x cn na : Nat} {M' : eM} {a b : Int} (hc : eLk pc M.2.2.2.2.2.2 = some (.invokestatic x, tg)) (hp : pc + 3 = pc') (hm : eMth M.1 x = some (10, cn, na, M')) (hr : eRm st = true) (ha : i32 a) (hb : i32 b) (kk : eWp ox C M (pc', lv, vI (gMin a b) :: st, N, h, k, z) P) : eWp ox C M (pc, lv, vI b :: vI a :: st, N, h, k, z) P := by
  subst hp
  refine eWp.go ?_ kk
  rw [eStep_eq hc]
  have e0 : (if Int32.ofInt b < Int32.ofInt a then Int32.ofInt b else Int32.ofInt a) = Int32.ofInt (gMin a b) := by
    unfold gMin
    by_cases h : b < a
    · rw [if_pos ((ofInt_lt32 hb ha).mpr h), if_pos h]
    · rw [if_neg (fun h9 => h ((ofInt_lt32 hb ha).mp h9)), if_neg h]
  simp only [eDo, eInv, hm, hr]
  rw [e0]; rfl
theorem eW_copyB (pc' : Nat) {x cn na a b n1 n0 : Nat} {M' : eM} {F G : Nat → Int} {sp dp n : Int} (hc : eLk pc M.2.2.2.2.2.2 = some (.invokestatic x, tg)) (hp : pc + 3 = pc') (hm : eMth M.1 x = some (8, cn, na, M')) (ha : Nat.ble (a + 1) N = true) (hb : Nat.ble (b + 1) N = true) (hr : eRm st = true) (hha : h a = .inl (3, n1, .inl (eIA G))) (hhb : h b = .inl (3, n0, .inl (eIA F))) (hsp : 0 ≤ sp ∧ i32 sp) (hdp : 0 ≤ dp ∧ i32 dp) (hn : 0 ≤ n ∧ i32 n) (h0 : sp + n ≤ n0) (h1 : dp + n ≤ n1) (hF : ∀ i, 0 ≤ F i ∧ F i ≤ 127)
    (kk : ∀ h' : eHp, h' a = .inl (3, n1, .inl (eIA (eCp F G sp.toNat dp.toNat n.toNat))) → (∀ i, i ≠ a → h' i = h i) → eWp ox C M (pc', lv, st, N, h', k, z) P) : eWp ox C M (pc, lv, vI n :: vI dp :: .ref a :: vI sp :: .ref b :: st, N, h, k, z) P := by
  subst hp
  have e0 : va_cpy (eIA F) (eIA G) sp.toNat dp.toNat n.toNat = eIA (eCp F G sp.toNat dp.toNat n.toNat) := by
    funext j
    unfold va_cpy eIA eCp
    split <;> rfl
  refine eWp.go ?_ (kk (va_up h a (.inl (3, n1, .inl (va_cpy (eIA F) (eIA G) sp.toNat dp.toNat n.toNat)))) (by rw [va_up_self, e0]) (fun i hi => va_up_ne _ _ hi))
  rw [eStep_eq hc]
  have s1 : ∀ {y : Int}, 0 ≤ y ∧ i32 y → decide (Int32.ofInt y < 0) = false := by
    intro y hy
    refine decide_eq_false ?_
    rw [show (0 : Int32) = Int32.ofInt 0 from rfl, ofInt_lt32 hy.2 i32_zero]; omega
  have s2 : Nat.ble (sp.toNat + n.toNat) n0 = true := Nat.ble_eq_true_of_le (by omega)
  have s3 : Nat.ble (dp.toNat + n.toNat) n1 = true := Nat.ble_eq_true_of_le (by omega)
  have s4 : eFitR 3 (eIA F) sp.toNat n.toNat = true := by
    refine List.all_eq_true.mpr (fun i _ => ?_)
    have hf := hF (sp.toNat + i)
    have e : (Int32.ofInt (F (sp.toNat + i))).toInt = F (sp.toNat + i) := ofInt_toInt32 (by unfold i32; omega)
    show fits .byte (.int (Int32.ofInt (F (sp.toNat + i)))) = true
    have e1 : (-128 : Int32) ≤ Int32.ofInt (F (sp.toNat + i)) := by
      rw [Int32.le_iff_toInt_le, e, show (-128 : Int32).toInt = -128 from by decide]; omega
    have e2 : Int32.ofInt (F (sp.toNat + i)) ≤ (127 : Int32) := by
      rw [Int32.le_iff_toInt_le, e, show (127 : Int32).toInt = 127 from by decide]; omega
    show (decide (-128 ≤ Int32.ofInt (F (sp.toNat + i))) && decide (Int32.ofInt (F (sp.toNat + i)) ≤ 127)) = true
    rw [decide_eq_true e1, decide_eq_true e2]; rfl
  simp only [eDo, eInv, hm, eCopy, ha, hb, hr, Bool.and_self, hha, hhb, Nat.beq_refl, s1 hsp, s1 hdp, s1 hn, ofInt_nat32 hsp.2, ofInt_nat32 hdp.2, ofInt_nat32 hn.2, s2, s3, s4, Bool.not_false]
  rfl
theorem eS_call5 {x cn na a : Nat} {M' : eM} {fs : List Value} (hc : eLk pc M.2.2.2.2.2.2 = some (.invokevirtual x, tg)) (hm : eMth M.1 x = some (5, cn, na, M')) (hr : st[na]? = some (.ref a)) (ha : Nat.ble (a + 1) N = true) (hh : h a = .inr (cn, fs)) (h9 : (eRm (st.drop (na + 1)) && (st.take (na + 1)).all eN9) = true) : eStep ox M (pc, lv, st, N, h, k, z) = some (.inr (.inr (5, x, M', (st.take (na + 1)).reverse, lv, st.drop (na + 1)))) := by
  rw [eStep_eq hc]
  simp only [Bool.and_eq_true] at h9
  simp only [eDo, hm, eInv, eRcv, hr, ha, hh, Nat.beq_refl, h9.1, h9.2, Bool.and_self]
theorem eS_call6 {x cn na a : Nat} {M' : eM} {fs : List Value} (hc : eLk pc M.2.2.2.2.2.2 = some (.invokespecial x, tg)) (hm : eMth M.1 x = some (6, cn, na, M')) (hr : st[na]? = some (.ref a)) (ha : Nat.ble (a + 1) N = true) (hh : h a = .inr (cn, fs)) (h9 : (eRm (st.drop (na + 1)) && (st.take (na + 1)).all eN9) = true) : eStep ox M (pc, lv, st, N, h, k, z) = some (.inr (.inr (6, x, M', (st.take (na + 1)).reverse, lv, st.drop (na + 1)))) := by
  rw [eStep_eq hc]
  simp only [Bool.and_eq_true] at h9
  simp only [eDo, hm, eInv, eRcv, hr, ha, hh, Nat.beq_refl, h9.1, h9.2, Bool.and_self]
/-- a call that returns, and may make names -/
theorem eW_callM (pc' : Nat) {kd idx : Nat} {M' : eM} {args0 : List Value} {r0 : List Value} {F : Option Value → Nat → eHp → Nat → Nat → Prop} (args r : List Value) (hs : eStep ox M (pc, lv, st, N, h, k, z) = some (.inr (.inr (kd, idx, M', args0, lv, r0)))) (hp : pc + 3 = pc') (hargs : args0 = args) (hrest : r0 = r) (hcl : (eClL N lv && r.all (eClV N)) = true)
    (hcall : ∃ q, C M' args N h q ∧ ∃ v N' h' a b, q = (.inl v, N', h', a, b) ∧ v.toList.all eN9 = true ∧ F v N' h' a b) (kk : ∀ v N' h' a b, F v N' h' a b → eWp ox C M (pc', lv, v.toList ++ r, N', h', k + a, z + b) P) : eWp ox C M (pc, lv, st, N, h, k, z) P := by
  subst hargs; subst hrest
  refine eW_callN pc' hs hp hcall hcl (fun q hq => ?_)
  obtain ⟨v, N', h', a, b, e, h9, hF⟩ := hq
  exact Or.inl ⟨v, N', h', a, b, e, h9, kk v N' h' a b hF⟩
end WP3
