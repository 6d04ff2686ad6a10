/-! more rows: longs and doubles in rows, floats, calls that make or throw -/
section WP2
variable {ox : Nat → Option (Nat × Nat × (Nat → Int32))} {C : eM → List Value → Nat → eHp → eR → Prop} {M : eM} {P : eR → Prop} {pc tg : Nat} {lv : eLv} {st : List Value} {N : Nat} {h : eHp} {k z : Nat}
theorem eLA_up (F : Nat → Int) (i : Nat) (x : Int) : vp_updL (eLA F) i (Int64.ofInt x) = eLA (eUp F i x) := by
  funext j
  unfold eLA eUp vp_updL
  by_cases h : j = i
  · simp [h]
  · simp [h]
theorem eW_lastore (pc' : Nat) {a n : Nat} {i x : Int} {F : Nat → Int} (hc : eLk pc M.2.2.2.2.2.2 = some (.lastore, tg)) (hp : pc + 1 = pc') (ha : Nat.ble (a + 1) N = true) (hh : h a = .inl (4, n, .inr (.inl (eLA F)))) (h0 : 0 ≤ i) (h1 : i < n) (hi : i32 i)
    (kk : ∀ h' : eHp, h' a = .inl (4, n, .inr (.inl (eLA (eUp F i.toNat x)))) → (∀ i, i ≠ a → h' i = h i) → eWp ox C M (pc', lv, st, N, h', k, z) P) : eWp ox C M (pc, lv, vL x :: vI i :: .ref a :: st, N, h, k, z) P := by
  subst hp
  refine eWp.go ?_ (kk (va_up h a (.inl (4, n, .inr (.inl (vp_updL (eLA F) i.toNat (Int64.ofInt x)))))) (by rw [va_up_self, eLA_up]) (fun i hi => va_up_ne _ _ hi))
  rw [eStep_eq hc]
  simp only [eDo, eAsL, ha, hh, eIn_i h0 h1 hi, ofInt_nat32 hi]
  rfl
theorem eW_dastore (pc' : Nat) {a n : Nat} {i : Int} {x : UInt64} {f : Nat → UInt64} (hc : eLk pc M.2.2.2.2.2.2 = some (.dastore, tg)) (hp : pc + 1 = pc') (ha : Nat.ble (a + 1) N = true) (hh : h a = .inl (6, n, .inr (.inr (.inr (.inl f))))) (h0 : 0 ≤ i) (h1 : i < n) (hi : i32 i)
    (kk : ∀ h' : eHp, h' a = .inl (6, n, .inr (.inr (.inr (.inl (vf_upd f i.toNat x))))) → (∀ i, i ≠ a → h' i = h i) → eWp ox C M (pc', lv, st, N, h', k, z) P) : eWp ox C M (pc, lv, .double x :: vI i :: .ref a :: st, N, h, k, z) P := by
  subst hp
  refine eWp.go ?_ (kk (va_up h a (.inl (6, n, .inr (.inr (.inr (.inl (vf_upd f i.toNat x))))))) (by rw [va_up_self]) (fun i hi => va_up_ne _ _ hi))
  rw [eStep_eq hc]
  simp only [eDo, eAsD, ha, hh, eIn_i h0 h1 hi, ofInt_nat32 hi]
  rfl
theorem eW_daload (pc' : Nat) {a n : Nat} {i : Int} {f : Nat → UInt64} (hc : eLk pc M.2.2.2.2.2.2 = some (.daload, tg)) (hp : pc + 1 = pc') (ha : Nat.ble (a + 1) N = true) (hh : h a = .inl (6, n, .inr (.inr (.inr (.inl f))))) (h0 : 0 ≤ i) (h1 : i < n) (hi : i32 i) (kk : eWp ox C M (pc', lv, .double (f i.toNat) :: st, N, h, k, z) P) : eWp ox C M (pc, lv, vI i :: .ref a :: st, N, h, k, z) P := by
  subst hp
  refine eWp.go ?_ kk
  rw [eStep_eq hc]
  simp only [eDo, eAlD, ha, hh, eIn_i h0 h1 hi, ofInt_nat32 hi]
  rfl
theorem eW_i2d (pc' : Nat) {x : Int32} (hc : eLk pc M.2.2.2.2.2.2 = some (.i2d, tg)) (hp : pc + 1 = pc') (kk : eWp ox C M (pc', lv, .double (FP.i2d x) :: st, N, h, k, z) P) : eWp ox C M (pc, lv, .int x :: st, N, h, k, z) P := by
  subst hp
  refine eWp.go ?_ kk
  rw [eStep_eq hc]; rfl
theorem eW_i2f (pc' : Nat) {x : Int32} (hc : eLk pc M.2.2.2.2.2.2 = some (.i2f, tg)) (hp : pc + 1 = pc') (kk : eWp ox C M (pc', lv, .float (FP.i2f x) :: st, N, h, k, z) P) : eWp ox C M (pc, lv, .int x :: st, N, h, k, z) P := by
  subst hp
  refine eWp.go ?_ kk
  rw [eStep_eq hc]; rfl
theorem eW_ddiv (pc' : Nat) {x y : UInt64} (hc : eLk pc M.2.2.2.2.2.2 = some (.ddiv, tg)) (hp : pc + 1 = pc') (hn : FP.ddiv x y &&& 0x7fffffffffffffff ≤ 0x7ff0000000000000) (kk : eWp ox C M (pc', lv, .double (FP.ddiv x y) :: st, N, h, k, z) P) : eWp ox C M (pc, lv, .double y :: .double x :: st, N, h, k, z) P := by
  subst hp
  refine eWp.go ?_ kk
  rw [eStep_eq hc]
  simp only [eDo, decide_eq_true hn]; rfl
theorem eW_fdiv (pc' : Nat) {x y : UInt32} (hc : eLk pc M.2.2.2.2.2.2 = some (.fdiv, tg)) (hp : pc + 1 = pc') (hn : FP.fdiv x y &&& 0x7fffffff ≤ 0x7f800000) (kk : eWp ox C M (pc', lv, .float (FP.fdiv x y) :: st, N, h, k, z) P) : eWp ox C M (pc, lv, .float y :: .float x :: st, N, h, k, z) P := by
  subst hp
  refine eWp.go ?_ kk
  rw [eStep_eq hc]
  simp only [eDo, decide_eq_true hn]; rfl
theorem eW_f2d (pc' : Nat) {x : UInt32} (hc : eLk pc M.2.2.2.2.2.2 = some (.f2d, tg)) (hp : pc + 1 = pc') (hn : FP.f2d x &&& 0x7fffffffffffffff ≤ 0x7ff0000000000000) (kk : eWp ox C M (pc', lv, .double (FP.f2d x) :: st, N, h, k, z) P) : eWp ox C M (pc, lv, .float x :: st, N, h, k, z) P := by
  subst hp
  refine eWp.go ?_ kk
  rw [eStep_eq hc]
  simp only [eDo, decide_eq_true hn]; rfl
theorem eW_dcmp (pc' : Nat) {op : ClassFile.CmpOp} {x y : UInt64} (hc : eLk pc M.2.2.2.2.2.2 = some (.dcmp op, tg)) (hp : pc + 1 = pc') (a : Int) (ha : Op.cmpValue (FP.dcmp x y) op = Int32.ofInt a) (kk : eWp ox C M (pc', lv, vI a :: st, N, h, k, z) P) : eWp ox C M (pc, lv, .double y :: .double x :: st, N, h, k, z) P := by
  subst hp
  refine eWp.go ?_ kk
  rw [eStep_eq hc]
  show eGo (pc + 1) lv (.int (Op.cmpValue (FP.dcmp x y) op) :: st) N h k z = _
  rw [ha]; rfl
theorem eW_dconst0 (pc' : Nat) (hc : eLk pc M.2.2.2.2.2.2 = some (.dconst 0, tg)) (hp : pc + 1 = pc') (kk : eWp ox C M (pc', lv, .double 0 :: st, N, h, k, z) P) : eWp ox C M (pc, lv, st, N, h, k, z) P := by
  subst hp
  refine eWp.go ?_ kk
  rw [eStep_eq hc]; rfl
theorem eW_fconst0 (pc' : Nat) (hc : eLk pc M.2.2.2.2.2.2 = some (.fconst 0, tg)) (hp : pc + 1 = pc') (kk : eWp ox C M (pc', lv, .float 0 :: st, N, h, k, z) P) : eWp ox C M (pc, lv, st, N, h, k, z) P := by
  subst hp
  refine eWp.go ?_ kk
  rw [eStep_eq hc]; rfl
theorem eW_dload (pc' : Nat) {j : Nat} {x : UInt64} (hc : eLk pc M.2.2.2.2.2.2 = some (.dload j, tg)) (hp : pc + 2 = pc') (hl : eLk j lv = some (.double x)) (kk : eWp ox C M (pc', lv, .double x :: st, N, h, k, z) P) : eWp ox C M (pc, lv, st, N, h, k, z) P := by
  subst hp
  refine eWp.go ?_ kk
  rw [eStep_eq hc]
  simp only [eDo, hl]; rfl
theorem eW_fload (pc' : Nat) {j : Nat} {x : UInt32} (hc : eLk pc M.2.2.2.2.2.2 = some (.fload j, tg)) (hp : pc + 2 = pc') (hl : eLk j lv = some (.float x)) (kk : eWp ox C M (pc', lv, .float x :: st, N, h, k, z) P) : eWp ox C M (pc, lv, st, N, h, k, z) P := by
  subst hp
  refine eWp.go ?_ kk
  rw [eStep_eq hc]
  simp only [eDo, hl]; rfl
theorem eW_dstore (pc' : Nat) {j : Nat} {x : UInt64} (hc : eLk pc M.2.2.2.2.2.2 = some (.dstore j, tg)) (hp : pc + 2 = pc') (lv' : eLv) (hm : Nat.ble (j + 2) M.2.2.2.1 = true) (hl : eP2 j (.double x) lv = lv') (kk : eWp ox C M (pc', lv', st, N, h, k, z) P) : eWp ox C M (pc, lv, .double x :: st, N, h, k, z) P := by
  subst hp
  refine eWp.go ?_ kk
  rw [eStep_eq hc]
  simp only [eDo, hm, hl]; rfl
theorem eW_fstore (pc' : Nat) {j : Nat} {x : UInt32} (hc : eLk pc M.2.2.2.2.2.2 = some (.fstore j, tg)) (hp : pc + 2 = pc') (lv' : eLv) (hm : Nat.ble (j + 1) M.2.2.2.1 = true) (hl : eP1 j (.float x) lv = lv') (kk : eWp ox C M (pc', lv', st, N, h, k, z) P) : eWp ox C M (pc, lv, .float x :: st, N, h, k, z) P := by
  subst hp
  refine eWp.go ?_ kk
  rw [eStep_eq hc]
  simp only [eDo, hm, hl]; rfl
theorem eW_ret_d {x : UInt64} (hc : eLk pc M.2.2.2.2.2.2 = some (.dreturn, tg)) (hr : M.2.2.2.2.1 = some .double) (hp : P (.inl (some (.double x)), N, h, k, z)) : eWp ox C M (pc, lv, [.double x], N, h, k, z) P := by
  refine eW_end ?_ hp
  unfold eEnd
  rw [eStep_eq hc]
  simp only [eDo, hr]
theorem eW_ret_f {x : UInt32} (hc : eLk pc M.2.2.2.2.2.2 = some (.freturn, tg)) (hr : M.2.2.2.2.1 = some .float) (hp : P (.inl (some (.float x)), N, h, k, z)) : eWp ox C M (pc, lv, [.float x], N, h, k, z) P := by
  refine eW_end ?_ hp
  unfold eEnd
  rw [eStep_eq hc]
  simp only [eDo, hr]
/-- a call in general: it returns, or throws into a handler -/
theorem eW_callN (pc' : Nat) {kd idx : Nat} {M' : eM} {args : List Value} {lv1 : eLv} {r : List Value} {PC : eR → Prop} (hs : eStep ox M (pc, lv, st, N, h, k, z) = some (.inr (.inr (kd, idx, M', args, lv1, r)))) (hp : pc + 3 = pc') (hcall : ∃ q, C M' args N h q ∧ PC q) (hcl : (eClL N lv1 && r.all (eClV N)) = true)
    (kk : ∀ q, PC q → (∃ v N' h' a b, q = (.inl v, N', h', a, b) ∧ v.toList.all eN9 = true ∧ eWp ox C M (pc', lv1, v.toList ++ r, N', h', k + a, z + b) P) ∨ (∃ E N' h' a b t, q = (.inr E, N', h', a, b) ∧ eHan M.1 pc E M.2.2.2.2.2.1 = some t ∧ lv1.all (fun q => eN9 q.2) = true ∧ eWp ox C M (t, lv1, [.retAddr 9], N', h', k + a, z + b) P)) : eWp ox C M (pc, lv, st, N, h, k, z) P := by
  subst hp
  obtain ⟨q, h1, h2⟩ := hcall
  rcases kk q h2 with ⟨v, N', h', a, b, rfl, h9, q2, h3, h4⟩ | ⟨E, N', h', a, b, t, rfl, ht, h9, q2, h3, h4⟩
  · refine ⟨q2, eRn.call hs h1 (c' := (pc + 3, lv1, v.toList ++ r, N', h', k + a, z + b)) ?_ h3, h4⟩
    simp only [eBack, hcl, Bool.or_true, h9]
  · refine ⟨q2, eRn.call hs h1 (c' := (t, lv1, [.retAddr 9], N', h', k + a, z + b)) ?_ h3, h4⟩
    simp only [eBack, hcl, Bool.or_true, ht, h9]
end WP2
/-! floats that are numbers -/
theorem fl_asm {s : Bool} {e t : Nat} (he : e * 8388608 + t ≤ 2139095040) : (FP.Core.assemble FP.Core.b32 s e t) % 2147483648 ≤ 2139095040 ∧ FP.Core.assemble FP.Core.b32 s e t < 4294967296 := by
  have e1 : FP.Core.assemble FP.Core.b32 s e t = (s.toNat * 256 + e) * 8388608 + t := rfl
  rw [e1]
  cases s
  · rw [show false.toNat = 0 from rfl]; omega
  · rw [show true.toNat = 1 from rfl]; omega
theorem fl_asm64 {s : Bool} {e t : Nat} (he : e * 4503599627370496 + t ≤ 9218868437227405312) : (FP.Core.assemble FP.Core.b64 s e t) % 9223372036854775808 ≤ 9218868437227405312 ∧ FP.Core.assemble FP.Core.b64 s e t < 18446744073709551616 := by
  have e1 : FP.Core.assemble FP.Core.b64 s e t = (s.toNat * 2048 + e) * 4503599627370496 + t := rfl
  rw [e1]
  cases s
  · rw [show false.toNat = 0 from rfl]; omega
  · rw [show true.toNat = 1 from rfl]; omega
theorem fl_enc {s : Bool} {c : Nat} {q : Int} (hc : c < 16777216) (hq : q ≤ 104) : (FP.Core.encode FP.Core.b32 (.fin s c q)) % 2147483648 ≤ 2139095040 ∧ FP.Core.encode FP.Core.b32 (.fin s c q) < 4294967296 := by
  have e1 : FP.Core.encode FP.Core.b32 (.fin s c q) = if c < 8388608 then FP.Core.assemble FP.Core.b32 s 0 c else FP.Core.assemble FP.Core.b32 s ((q - (-149)).toNat + 1) (c - 8388608) := rfl
  rw [e1]
  split
  · exact fl_asm (by omega)
  · exact fl_asm (by omega)
theorem fl_enc64 {s : Bool} {c : Nat} {q : Int} (hc : c < 9007199254740992) (hq : q ≤ 971) : (FP.Core.encode FP.Core.b64 (.fin s c q)) % 9223372036854775808 ≤ 9218868437227405312 ∧ FP.Core.encode FP.Core.b64 (.fin s c q) < 18446744073709551616 := by
  have e1 : FP.Core.encode FP.Core.b64 (.fin s c q) = if c < 4503599627370496 then FP.Core.assemble FP.Core.b64 s 0 c else FP.Core.assemble FP.Core.b64 s ((q - (-1074)).toNat + 1) (c - 4503599627370496) := rfl
  rw [e1]
  split
  · exact fl_asm64 (by omega)
  · exact fl_asm64 (by omega)
theorem fl_bound {s : Bool} {c : Nat} {q : Int} (hc : c < 16777216) : (FP.Core.encode FP.Core.b32 (FP.Core.bound FP.Core.b32 s c q)) % 2147483648 ≤ 2139095040 ∧ FP.Core.encode FP.Core.b32 (FP.Core.bound FP.Core.b32 s c q) < 4294967296 := by
  have e1 : FP.Core.bound FP.Core.b32 s c q = if q ≤ 104 then .fin s c q else .inf s := rfl
  rw [e1]
  split
  · rename_i h; exact fl_enc hc h
  · exact fl_asm (e := 255) (t := 0) (by decide)
theorem fl_bound64 {s : Bool} {c : Nat} {q : Int} (hc : c < 9007199254740992) : (FP.Core.encode FP.Core.b64 (FP.Core.bound FP.Core.b64 s c q)) % 9223372036854775808 ≤ 9218868437227405312 ∧ FP.Core.encode FP.Core.b64 (FP.Core.bound FP.Core.b64 s c q) < 18446744073709551616 := by
  have e1 : FP.Core.bound FP.Core.b64 s c q = if q ≤ 971 then .fin s c q else .inf s := rfl
  rw [e1]
  split
  · rename_i h; exact fl_enc64 hc h
  · exact fl_asm64 (e := 2047) (t := 0) (by decide)
theorem fl_settle {s : Bool} {c : Nat} {q : Int} : (FP.Core.encode FP.Core.b32 (FP.Core.settle FP.Core.b32 s c q)) % 2147483648 ≤ 2139095040 ∧ FP.Core.encode FP.Core.b32 (FP.Core.settle FP.Core.b32 s c q) < 4294967296 := by
  have e1 : FP.Core.settle FP.Core.b32 s c q = if c < 16777216 then FP.Core.bound FP.Core.b32 s c q else FP.Core.bound FP.Core.b32 s 8388608 (q + 1) := rfl
  rw [e1]
  split
  · rename_i h; exact fl_bound h
  · exact fl_bound (by decide)
theorem fl_settle64 {s : Bool} {c : Nat} {q : Int} : (FP.Core.encode FP.Core.b64 (FP.Core.settle FP.Core.b64 s c q)) % 9223372036854775808 ≤ 9218868437227405312 ∧ FP.Core.encode FP.Core.b64 (FP.Core.settle FP.Core.b64 s c q) < 18446744073709551616 := by
  have e1 : FP.Core.settle FP.Core.b64 s c q = if c < 9007199254740992 then FP.Core.bound FP.Core.b64 s c q else FP.Core.bound FP.Core.b64 s 4503599627370496 (q + 1) := rfl
  rw [e1]
  split
  · rename_i h; exact fl_bound64 h
  · exact fl_bound64 (by decide)
theorem fl_ratio {s : Bool} {a b : Nat} {e : Int} : (FP.Core.encode FP.Core.b32 (FP.Core.roundRatio FP.Core.b32 s a b e)) % 2147483648 ≤ 2139095040 ∧ FP.Core.encode FP.Core.b32 (FP.Core.roundRatio FP.Core.b32 s a b e) < 4294967296 := by
  unfold FP.Core.roundRatio
  split
  · exact fl_enc (by decide) (by decide)
  · exact fl_settle
theorem fl_ratio64 {s : Bool} {a b : Nat} {e : Int} : (FP.Core.encode FP.Core.b64 (FP.Core.roundRatio FP.Core.b64 s a b e)) % 9223372036854775808 ≤ 9218868437227405312 ∧ FP.Core.encode FP.Core.b64 (FP.Core.roundRatio FP.Core.b64 s a b e) < 18446744073709551616 := by
  unfold FP.Core.roundRatio
  split
  · exact fl_enc64 (by decide) (by decide)
  · exact fl_settle64
/-- a number that isn't 0 -/
def flPos (d : FP.Core.Datum) : Bool := match d with | .fin _ c _ => !decide (c = 0) | _ => false
def flFin (d : FP.Core.Datum) : Bool := match d with | .fin _ _ _ => true | _ => false
theorem fl_div {x y : UInt32} (hx : flFin (FP.Core.decode FP.Core.b32 x.toNat) = true) (hy : flPos (FP.Core.decode FP.Core.b32 y.toNat) = true) : (FP.fdiv x y).toNat % 2147483648 ≤ 2139095040 := by
  have h : (FP.Core.div FP.Core.b32 x.toNat y.toNat) % 2147483648 ≤ 2139095040 ∧ FP.Core.div FP.Core.b32 x.toNat y.toNat < 4294967296 := by
    unfold FP.Core.div
    cases hx9 : FP.Core.decode FP.Core.b32 x.toNat with
    | nan => rw [hx9] at hx; cases hx
    | inf s => rw [hx9] at hx; cases hx
    | fin s c q =>
      cases hy9 : FP.Core.decode FP.Core.b32 y.toNat with
      | nan => rw [hy9] at hy; cases hy
      | inf s => rw [hy9] at hy; cases hy
      | fin t d r =>
        rw [hy9] at hy
        have hd : d ≠ 0 := by intro e; subst e; cases hy
        rw [show FP.Core.quotient FP.Core.b32 (.fin s c q) (.fin t d r) = FP.Core.roundRatio FP.Core.b32 (s != t) c d (q - r) from if_neg hd]
        exact fl_ratio
  have e : (FP.fdiv x y).toNat = FP.Core.div FP.Core.b32 x.toNat y.toNat := by
    show (UInt32.ofNat _).toNat = _
    rw [UInt32.toNat_ofNat_of_lt' h.2]
  rw [e]; exact h.1
theorem fl_and32 {x : UInt32} (h : x.toNat % 2147483648 ≤ 2139095040) : x &&& 0x7fffffff ≤ 0x7f800000 := by
  rw [UInt32.le_iff_toNat_le, UInt32.toNat_and]
  show x.toNat &&& 2147483647 ≤ 2139095040
  rw [show (2147483647 : Nat) = 2 ^ 31 - 1 from rfl, Nat.and_two_pow_sub_one_eq_mod]; exact h
theorem fl_and64 {x : UInt64} (h : x.toNat % 9223372036854775808 ≤ 9218868437227405312) : x &&& 0x7fffffffffffffff ≤ 0x7ff0000000000000 := by
  rw [UInt64.le_iff_toNat_le, UInt64.toNat_and]
  show x.toNat &&& 9223372036854775807 ≤ 9218868437227405312
  rw [show (9223372036854775807 : Nat) = 2 ^ 63 - 1 from rfl, Nat.and_two_pow_sub_one_eq_mod]; exact h
theorem fl_nan32 {n : Nat} (h : n % 2147483648 ≤ 2139095040) : FP.Core.decode FP.Core.b32 n ≠ .nan := by
  have e1 : FP.Core.decode FP.Core.b32 n = if n / 8388608 % 256 = 255 then (if n % 8388608 = 0 then .inf (n / 8388608 / 256 % 2 == 1) else .nan) else if n / 8388608 % 256 = 0 then .fin (n / 8388608 / 256 % 2 == 1) (n % 8388608) (-149) else .fin (n / 8388608 / 256 % 2 == 1) (8388608 + n % 8388608) (-149 + (((n / 8388608 % 256 : Nat) : Int) - 1)) := rfl
  rw [e1]
  split
  · rw [if_pos (by omega)]; intro h9; cases h9
  · split <;> (intro h9; cases h9)
theorem fl_nan64 {n : Nat} (h : n % 9223372036854775808 ≤ 9218868437227405312) : FP.Core.decode FP.Core.b64 n ≠ .nan := by
  have e1 : FP.Core.decode FP.Core.b64 n = if n / 4503599627370496 % 2048 = 2047 then (if n % 4503599627370496 = 0 then .inf (n / 4503599627370496 / 2048 % 2 == 1) else .nan) else if n / 4503599627370496 % 2048 = 0 then .fin (n / 4503599627370496 / 2048 % 2 == 1) (n % 4503599627370496) (-1074) else .fin (n / 4503599627370496 / 2048 % 2 == 1) (4503599627370496 + n % 4503599627370496) (-1074 + (((n / 4503599627370496 % 2048 : Nat) : Int) - 1)) := rfl
  rw [e1]
  split
  · rw [if_pos (by omega)]; intro h9; cases h9
  · split <;> (intro h9; cases h9)
theorem fl_f2d {x : UInt32} (h : x.toNat % 2147483648 ≤ 2139095040) : (FP.f2d x).toNat % 9223372036854775808 ≤ 9218868437227405312 := by
  have hn := fl_nan32 h
  have e : FP.f2d x = FP.Core.f2d x := by
    unfold FP.f2d
    rw [if_neg]
    intro h9
    exact hn (of_decide_eq_true h9)
  rw [e]
  have h2 : (FP.Core.convert FP.Core.b32 FP.Core.b64 x.toNat) % 9223372036854775808 ≤ 9218868437227405312 ∧ FP.Core.convert FP.Core.b32 FP.Core.b64 x.toNat < 18446744073709551616 := by
    unfold FP.Core.convert
    cases hx9 : FP.Core.decode FP.Core.b32 x.toNat with
    | nan => exact absurd hx9 hn
    | inf s => exact fl_asm64 (e := 2047) (t := 0) (by decide)
    | fin s c q => exact fl_ratio64
  show (UInt64.ofNat _).toNat % _ ≤ _
  rw [UInt64.toNat_ofNat_of_lt' h2.2]
  exact h2.1
theorem fl_dcmp {x : UInt64} (h : x.toNat % 9223372036854775808 ≤ 9218868437227405312) : FP.dcmp x x = some .eq := by
  have hn := fl_nan64 h
  show FP.Core.order (FP.Core.decode FP.Core.b64 x.toNat) (FP.Core.decode FP.Core.b64 x.toNat) = _
  cases hx9 : FP.Core.decode FP.Core.b64 x.toNat with
  | nan => exact absurd hx9 hn
  | inf s => show some (compare _ _) = _; rw [Std.compare_self]
  | fin s c q => show some (compare _ _) = _; rw [Std.compare_self]
set_option maxRecDepth 100000 in
theorem fl_i2f_all : (List.range 16000).all (fun a => flFin (FP.Core.decode FP.Core.b32 (FP.i2f (Int32.ofInt (a : Int))).toNat) && (decide (a = 0) || flPos (FP.Core.decode FP.Core.b32 (FP.i2f (Int32.ofInt (a : Int))).toNat))) = true := by decide +kernel
theorem fl_i2f {a : Int} (h0 : 0 ≤ a) (h1 : a < 16000) : flFin (FP.Core.decode FP.Core.b32 (FP.i2f (Int32.ofInt a)).toNat) = true ∧ (a ≠ 0 → flPos (FP.Core.decode FP.Core.b32 (FP.i2f (Int32.ofInt a)).toNat) = true) := by
  have h := List.all_eq_true.mp fl_i2f_all a.toNat (List.mem_range.mpr (by omega))
  rw [Int.toNat_of_nonneg h0, Bool.and_eq_true, Bool.or_eq_true] at h
  refine ⟨h.1, fun h9 => ?_⟩
  rcases h.2 with h8 | h8
  · have := of_decide_eq_true h8; omega
  · exact h8
/-- the share -/
def gShr (a b : Int) : UInt32 := FP.fdiv (FP.i2f (Int32.ofInt a)) (FP.i2f (Int32.ofInt b))
theorem gShr_ok {a b : Int} (ha : 0 ≤ a ∧ a < 16000) (hb : 0 < b ∧ b < 16000) : (gShr a b).toNat % 2147483648 ≤ 2139095040 := fl_div (fl_i2f ha.1 ha.2).1 ((fl_i2f (by omega) hb.2).2 (by omega))
/-- the mean -/
def gMean (a b : Int) : UInt64 := FP.ddiv (FP.i2d (Int32.ofInt a)) (FP.i2d (Int32.ofInt b))
set_option maxRecDepth 100000 in
theorem gMean_all : ((List.range 41).all fun a => (List.range 41).all fun b => decide (b = 0) || decide ((gMean (a : Int) (b : Int)).toNat % 9223372036854775808 ≤ 9218868437227405312)) = true := by decide +kernel
theorem gMean_ok {a b : Int} (ha : 0 ≤ a ∧ a ≤ 40) (hb : 0 < b ∧ b ≤ 40) : (gMean a b).toNat % 9223372036854775808 ≤ 9218868437227405312 := by
  have h := List.all_eq_true.mp (List.all_eq_true.mp gMean_all a.toNat (List.mem_range.mpr (by omega))) b.toNat (List.mem_range.mpr (by omega))
  rw [Int.toNat_of_nonneg ha.1, Int.toNat_of_nonneg (by omega), Bool.or_eq_true] at h
  rcases h with h | h
  · have := of_decide_eq_true h; omega
  · exact of_decide_eq_true h
