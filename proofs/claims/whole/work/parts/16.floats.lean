/-! floats and doubles -/
section EFL
variable {S : List (String × Nat × String)} {p : Program} {l : Launch} {e : Env} {R : Room} {s : State} {m : MethodId} {args : Array Value} {below : List Frame} {meth : Method} {c : Code} {Q : State → Prop} {ox : Nat → Option (Nat × Nat × (Nat → Int32))} {M : eM} {D : va_G} {cA : Nat → ClassId} {A : Nat → Prop} {bv0 : Nat → Value} {N0 : Nat} {ad0 : Nat → Nat}
variable {pc tg : Nat} {lv : eLv} {st : List Value} {N : Nat} {h : eHp} {k z : Nat} {c' : eC}
theorem eg_i2d (F : eFr S p l s m args meth c ox M D cA A bv0) {r : List Value} {x : Int32} (hd : decode M.2.2.1 pc = .ok (.i2d, 1)) (kk : eKW p l e R s m args below meth c Q M D cA A bv0 N0 ad0 (pc + 1, lv, .double (FP.i2d x) :: r, N, h, k, z)) : eKW p l e R s m args below meth c Q M D cA A bv0 N0 ad0 (pc, lv, .int x :: r, N, h, k, z) := by
  intro ad bv H locs ls hb hbv hag hag2 hP hD hS hl
  exact lv_i2d F.1 F.2.1 hd (kk ad bv H locs ls hb hbv hag hag2 hP hD hS hl)
theorem eg_i2f (F : eFr S p l s m args meth c ox M D cA A bv0) {r : List Value} {x : Int32} (hd : decode M.2.2.1 pc = .ok (.i2f, 1)) (kk : eKW p l e R s m args below meth c Q M D cA A bv0 N0 ad0 (pc + 1, lv, .float (FP.i2f x) :: r, N, h, k, z)) : eKW p l e R s m args below meth c Q M D cA A bv0 N0 ad0 (pc, lv, .int x :: r, N, h, k, z) := by
  intro ad bv H locs ls hb hbv hag hag2 hP hD hS hl
  exact lv_i2f F.1 F.2.1 hd (kk ad bv H locs ls hb hbv hag hag2 hP hD hS hl)
theorem eg_ddiv (F : eFr S p l s m args meth c ox M D cA A bv0) {r : List Value} {x y : UInt64} (hd : decode M.2.2.1 pc = .ok (.ddiv, 1)) (hne : FP.ddiv x y &&& 0x7fffffffffffffff ≤ 0x7ff0000000000000) (kk : eKW p l e R s m args below meth c Q M D cA A bv0 N0 ad0 (pc + 1, lv, .double (FP.ddiv x y) :: r, N, h, k, z)) : eKW p l e R s m args below meth c Q M D cA A bv0 N0 ad0 (pc, lv, .double y :: .double x :: r, N, h, k, z) := by
  intro ad bv H locs ls hb hbv hag hag2 hP hD hS hl
  exact lv_ddiv F.1 F.2.1 hd hne (kk ad bv H locs ls hb hbv hag hag2 hP hD hS hl)
theorem eg_fdiv (F : eFr S p l s m args meth c ox M D cA A bv0) {r : List Value} {x y : UInt32} (hd : decode M.2.2.1 pc = .ok (.fdiv, 1)) (hne : FP.fdiv x y &&& 0x7fffffff ≤ 0x7f800000) (kk : eKW p l e R s m args below meth c Q M D cA A bv0 N0 ad0 (pc + 1, lv, .float (FP.fdiv x y) :: r, N, h, k, z)) : eKW p l e R s m args below meth c Q M D cA A bv0 N0 ad0 (pc, lv, .float y :: .float x :: r, N, h, k, z) := by
  intro ad bv H locs ls hb hbv hag hag2 hP hD hS hl
  exact lv_fdiv F.1 F.2.1 hd hne (kk ad bv H locs ls hb hbv hag hag2 hP hD hS hl)
theorem eg_f2d (F : eFr S p l s m args meth c ox M D cA A bv0) {r : List Value} {x : UInt32} (hd : decode M.2.2.1 pc = .ok (.f2d, 1)) (hne : FP.f2d x &&& 0x7fffffffffffffff ≤ 0x7ff0000000000000) (kk : eKW p l e R s m args below meth c Q M D cA A bv0 N0 ad0 (pc + 1, lv, .double (FP.f2d x) :: r, N, h, k, z)) : eKW p l e R s m args below meth c Q M D cA A bv0 N0 ad0 (pc, lv, .float x :: r, N, h, k, z) := by
  intro ad bv H locs ls hb hbv hag hag2 hP hD hS hl
  exact lv_f2d F.1 F.2.1 hd hne (kk ad bv H locs ls hb hbv hag hag2 hP hD hS hl)
theorem eg_dcmp (F : eFr S p l s m args meth c ox M D cA A bv0) {r : List Value} {x y : UInt64} {op : ClassFile.CmpOp} (hd : decode M.2.2.1 pc = .ok (.dcmp op, 1)) (kk : eKW p l e R s m args below meth c Q M D cA A bv0 N0 ad0 (pc + 1, lv, .int (Op.cmpValue (FP.dcmp x y) op) :: r, N, h, k, z)) : eKW p l e R s m args below meth c Q M D cA A bv0 N0 ad0 (pc, lv, .double y :: .double x :: r, N, h, k, z) := by
  intro ad bv H locs ls hb hbv hag hag2 hP hD hS hl
  exact lv_dcmp F.1 F.2.1 hd (kk ad bv H locs ls hb hbv hag hag2 hP hD hS hl)
theorem eg_fcmp (F : eFr S p l s m args meth c ox M D cA A bv0) {r : List Value} {x y : UInt32} {op : ClassFile.CmpOp} (hd : decode M.2.2.1 pc = .ok (.fcmp op, 1)) (kk : eKW p l e R s m args below meth c Q M D cA A bv0 N0 ad0 (pc + 1, lv, .int (Op.cmpValue (FP.fcmp x y) op) :: r, N, h, k, z)) : eKW p l e R s m args below meth c Q M D cA A bv0 N0 ad0 (pc, lv, .float y :: .float x :: r, N, h, k, z) := by
  intro ad bv H locs ls hb hbv hag hag2 hP hD hS hl
  exact lv_fcmp F.1 F.2.1 hd (kk ad bv H locs ls hb hbv hag hag2 hP hD hS hl)
theorem eg_dconst0 (F : eFr S p l s m args meth c ox M D cA A bv0) {r : List Value} (hd : decode M.2.2.1 pc = .ok (.dconst 0, 1)) (kk : eKW p l e R s m args below meth c Q M D cA A bv0 N0 ad0 (pc + 1, lv, .double 0 :: r, N, h, k, z)) : eKW p l e R s m args below meth c Q M D cA A bv0 N0 ad0 (pc, lv, r, N, h, k, z) := by
  intro ad bv H locs ls hb hbv hag hag2 hP hD hS hl
  exact lv_dconst0 F.1 F.2.1 hd (kk ad bv H locs ls hb hbv hag hag2 hP hD hS hl)
theorem eg_fconst0 (F : eFr S p l s m args meth c ox M D cA A bv0) {r : List Value} (hd : decode M.2.2.1 pc = .ok (.fconst 0, 1)) (kk : eKW p l e R s m args below meth c Q M D cA A bv0 N0 ad0 (pc + 1, lv, .float 0 :: r, N, h, k, z)) : eKW p l e R s m args below meth c Q M D cA A bv0 N0 ad0 (pc, lv, r, N, h, k, z) := by
  intro ad bv H locs ls hb hbv hag hag2 hP hD hS hl
  exact lv_fconst0 F.1 F.2.1 hd (kk ad bv H locs ls hb hbv hag hag2 hP hD hS hl)
theorem eg_dload (F : eFr S p l s m args meth c ox M D cA A bv0) {r : List Value} {j : Nat} {x : UInt64} (hd : decode M.2.2.1 pc = .ok (.dload j, 2)) (hj : eLk j lv = some (.double x)) (kk : eKW p l e R s m args below meth c Q M D cA A bv0 N0 ad0 (pc + 2, lv, .double x :: r, N, h, k, z)) : eKW p l e R s m args below meth c Q M D cA A bv0 N0 ad0 (pc, lv, r, N, h, k, z) := by
  intro ad bv H locs ls hb hbv hag hag2 hP hD hS hl
  exact lv_dload F.1 F.2.1 hd (eL_lk hl hj) (kk ad bv H locs ls hb hbv hag hag2 hP hD hS hl)
theorem eg_fload (F : eFr S p l s m args meth c ox M D cA A bv0) {r : List Value} {j : Nat} {x : UInt32} (hd : decode M.2.2.1 pc = .ok (.fload j, 2)) (hj : eLk j lv = some (.float x)) (kk : eKW p l e R s m args below meth c Q M D cA A bv0 N0 ad0 (pc + 2, lv, .float x :: r, N, h, k, z)) : eKW p l e R s m args below meth c Q M D cA A bv0 N0 ad0 (pc, lv, r, N, h, k, z) := by
  intro ad bv H locs ls hb hbv hag hag2 hP hD hS hl
  exact lv_fload F.1 F.2.1 hd (eL_lk hl hj) (kk ad bv H locs ls hb hbv hag hag2 hP hD hS hl)
theorem eg_dstore (F : eFr S p l s m args meth c ox M D cA A bv0) {r : List Value} {j : Nat} {x : UInt64} (hd : decode M.2.2.1 pc = .ok (.dstore j, 2)) (hj : Nat.ble (j + 2) M.2.2.2.1 = true) (kk : eKW p l e R s m args below meth c Q M D cA A bv0 N0 ad0 (pc + 2, eP2 j (.double x) lv, r, N, h, k, z)) : eKW p l e R s m args below meth c Q M D cA A bv0 N0 ad0 (pc, lv, .double x :: r, N, h, k, z) := by
  intro ad bv H locs ls hb hbv hag hag2 hP hD hS hl
  exact lv_dstore F.1 F.2.1 hd hl (Nat.le_of_ble_eq_true hj) (eL_P2 hbv _ (.double x) lv) (fun ls' hl' => kk ad bv H locs ls' hb hbv hag hag2 hP hD hS hl')
theorem eg_fstore (F : eFr S p l s m args meth c ox M D cA A bv0) {r : List Value} {j : Nat} {x : UInt32} (hd : decode M.2.2.1 pc = .ok (.fstore j, 2)) (hj : Nat.ble (j + 1) M.2.2.2.1 = true) (kk : eKW p l e R s m args below meth c Q M D cA A bv0 N0 ad0 (pc + 2, eP1 j (.float x) lv, r, N, h, k, z)) : eKW p l e R s m args below meth c Q M D cA A bv0 N0 ad0 (pc, lv, .float x :: r, N, h, k, z) := by
  intro ad bv H locs ls hb hbv hag hag2 hP hD hS hl
  exact lv_fstore F.1 F.2.1 hd hl (Nat.le_of_ble_eq_true hj) (eL_P1 hbv _ (.float x) lv) (fun ls' hl' => kk ad bv H locs ls' hb hbv hag hag2 hP hD hS hl')
theorem eD_i2d (F : eFr S p l s m args meth c ox M D cA A bv0) (hRf : 8 ≤ R.frames) (hRl : 200 ≤ R.locals) (hN : N0 ≤ N) (hd : decode M.2.2.1 pc = .ok (.i2d, eSz pc (.i2d))) (ht : eTgOk pc tg (.i2d) = true) (hs : eDo ox M (.i2d) tg pc lv st N h k z = some (.inl c')) (hk : c'.2.2.2.2.2.1 ≤ R.cells) (hz : c'.2.2.2.2.2.2 ≤ R.slots) (kk : eKW p l e R s m args below meth c Q M D cA A bv0 N0 ad0 c') : eKW p l e R s m args below meth c Q M D cA A bv0 N0 ad0 (pc, lv, st, N, h, k, z) := by
  simp only [eDo] at hs
  split at hs
  · obtain rfl := eGo_inj hs
    exact eg_i2d F hd kk
  · cases hs
theorem eD_i2f (F : eFr S p l s m args meth c ox M D cA A bv0) (hRf : 8 ≤ R.frames) (hRl : 200 ≤ R.locals) (hN : N0 ≤ N) (hd : decode M.2.2.1 pc = .ok (.i2f, eSz pc (.i2f))) (ht : eTgOk pc tg (.i2f) = true) (hs : eDo ox M (.i2f) tg pc lv st N h k z = some (.inl c')) (hk : c'.2.2.2.2.2.1 ≤ R.cells) (hz : c'.2.2.2.2.2.2 ≤ R.slots) (kk : eKW p l e R s m args below meth c Q M D cA A bv0 N0 ad0 c') : eKW p l e R s m args below meth c Q M D cA A bv0 N0 ad0 (pc, lv, st, N, h, k, z) := by
  simp only [eDo] at hs
  split at hs
  · obtain rfl := eGo_inj hs
    exact eg_i2f F hd kk
  · cases hs
theorem eD_ddiv (F : eFr S p l s m args meth c ox M D cA A bv0) (hRf : 8 ≤ R.frames) (hRl : 200 ≤ R.locals) (hN : N0 ≤ N) (hd : decode M.2.2.1 pc = .ok (.ddiv, eSz pc (.ddiv))) (ht : eTgOk pc tg (.ddiv) = true) (hs : eDo ox M (.ddiv) tg pc lv st N h k z = some (.inl c')) (hk : c'.2.2.2.2.2.1 ≤ R.cells) (hz : c'.2.2.2.2.2.2 ≤ R.slots) (kk : eKW p l e R s m args below meth c Q M D cA A bv0 N0 ad0 c') : eKW p l e R s m args below meth c Q M D cA A bv0 N0 ad0 (pc, lv, st, N, h, k, z) := by
  simp only [eDo] at hs
  split at hs
  · split at hs
    · rename_i hy
      obtain rfl := eGo_inj hs
      exact eg_ddiv F hd (of_decide_eq_true hy) kk
    · cases hs
  · cases hs
theorem eD_fdiv (F : eFr S p l s m args meth c ox M D cA A bv0) (hRf : 8 ≤ R.frames) (hRl : 200 ≤ R.locals) (hN : N0 ≤ N) (hd : decode M.2.2.1 pc = .ok (.fdiv, eSz pc (.fdiv))) (ht : eTgOk pc tg (.fdiv) = true) (hs : eDo ox M (.fdiv) tg pc lv st N h k z = some (.inl c')) (hk : c'.2.2.2.2.2.1 ≤ R.cells) (hz : c'.2.2.2.2.2.2 ≤ R.slots) (kk : eKW p l e R s m args below meth c Q M D cA A bv0 N0 ad0 c') : eKW p l e R s m args below meth c Q M D cA A bv0 N0 ad0 (pc, lv, st, N, h, k, z) := by
  simp only [eDo] at hs
  split at hs
  · split at hs
    · rename_i hy
      obtain rfl := eGo_inj hs
      exact eg_fdiv F hd (of_decide_eq_true hy) kk
    · cases hs
  · cases hs
theorem eD_f2d (F : eFr S p l s m args meth c ox M D cA A bv0) (hRf : 8 ≤ R.frames) (hRl : 200 ≤ R.locals) (hN : N0 ≤ N) (hd : decode M.2.2.1 pc = .ok (.f2d, eSz pc (.f2d))) (ht : eTgOk pc tg (.f2d) = true) (hs : eDo ox M (.f2d) tg pc lv st N h k z = some (.inl c')) (hk : c'.2.2.2.2.2.1 ≤ R.cells) (hz : c'.2.2.2.2.2.2 ≤ R.slots) (kk : eKW p l e R s m args below meth c Q M D cA A bv0 N0 ad0 c') : eKW p l e R s m args below meth c Q M D cA A bv0 N0 ad0 (pc, lv, st, N, h, k, z) := by
  simp only [eDo] at hs
  split at hs
  · split at hs
    · rename_i hy
      obtain rfl := eGo_inj hs
      exact eg_f2d F hd (of_decide_eq_true hy) kk
    · cases hs
  · cases hs
theorem eD_dcmp (F : eFr S p l s m args meth c ox M D cA A bv0) (hRf : 8 ≤ R.frames) (hRl : 200 ≤ R.locals) (hN : N0 ≤ N) {op : ClassFile.CmpOp} (hd : decode M.2.2.1 pc = .ok (.dcmp op, eSz pc (.dcmp op))) (ht : eTgOk pc tg (.dcmp op) = true) (hs : eDo ox M (.dcmp op) tg pc lv st N h k z = some (.inl c')) (hk : c'.2.2.2.2.2.1 ≤ R.cells) (hz : c'.2.2.2.2.2.2 ≤ R.slots) (kk : eKW p l e R s m args below meth c Q M D cA A bv0 N0 ad0 c') : eKW p l e R s m args below meth c Q M D cA A bv0 N0 ad0 (pc, lv, st, N, h, k, z) := by
  simp only [eDo] at hs
  split at hs
  · obtain rfl := eGo_inj hs
    exact eg_dcmp F hd kk
  · cases hs
theorem eD_fcmp (F : eFr S p l s m args meth c ox M D cA A bv0) (hRf : 8 ≤ R.frames) (hRl : 200 ≤ R.locals) (hN : N0 ≤ N) {op : ClassFile.CmpOp} (hd : decode M.2.2.1 pc = .ok (.fcmp op, eSz pc (.fcmp op))) (ht : eTgOk pc tg (.fcmp op) = true) (hs : eDo ox M (.fcmp op) tg pc lv st N h k z = some (.inl c')) (hk : c'.2.2.2.2.2.1 ≤ R.cells) (hz : c'.2.2.2.2.2.2 ≤ R.slots) (kk : eKW p l e R s m args below meth c Q M D cA A bv0 N0 ad0 c') : eKW p l e R s m args below meth c Q M D cA A bv0 N0 ad0 (pc, lv, st, N, h, k, z) := by
  simp only [eDo] at hs
  split at hs
  · obtain rfl := eGo_inj hs
    exact eg_fcmp F hd kk
  · cases hs
theorem eD_dconst (F : eFr S p l s m args meth c ox M D cA A bv0) (hRf : 8 ≤ R.frames) (hRl : 200 ≤ R.locals) (hN : N0 ≤ N) {j : Fin 2} (hd : decode M.2.2.1 pc = .ok (.dconst j, eSz pc (.dconst j))) (ht : eTgOk pc tg (.dconst j) = true) (hs : eDo ox M (.dconst j) tg pc lv st N h k z = some (.inl c')) (hk : c'.2.2.2.2.2.1 ≤ R.cells) (hz : c'.2.2.2.2.2.2 ≤ R.slots) (kk : eKW p l e R s m args below meth c Q M D cA A bv0 N0 ad0 c') : eKW p l e R s m args below meth c Q M D cA A bv0 N0 ad0 (pc, lv, st, N, h, k, z) := by
  simp only [eDo] at hs
  split at hs
  · obtain rfl := eGo_inj hs
    exact eg_dconst0 F hd kk
  · cases hs
theorem eD_fconst (F : eFr S p l s m args meth c ox M D cA A bv0) (hRf : 8 ≤ R.frames) (hRl : 200 ≤ R.locals) (hN : N0 ≤ N) {j : Fin 3} (hd : decode M.2.2.1 pc = .ok (.fconst j, eSz pc (.fconst j))) (ht : eTgOk pc tg (.fconst j) = true) (hs : eDo ox M (.fconst j) tg pc lv st N h k z = some (.inl c')) (hk : c'.2.2.2.2.2.1 ≤ R.cells) (hz : c'.2.2.2.2.2.2 ≤ R.slots) (kk : eKW p l e R s m args below meth c Q M D cA A bv0 N0 ad0 c') : eKW p l e R s m args below meth c Q M D cA A bv0 N0 ad0 (pc, lv, st, N, h, k, z) := by
  simp only [eDo] at hs
  split at hs
  · obtain rfl := eGo_inj hs
    exact eg_fconst0 F hd kk
  · cases hs
theorem eD_dload (F : eFr S p l s m args meth c ox M D cA A bv0) (hRf : 8 ≤ R.frames) (hRl : 200 ≤ R.locals) (hN : N0 ≤ N) {j : Nat} (hd : decode M.2.2.1 pc = .ok (.dload j, eSz pc (.dload j))) (ht : eTgOk pc tg (.dload j) = true) (hs : eDo ox M (.dload j) tg pc lv st N h k z = some (.inl c')) (hk : c'.2.2.2.2.2.1 ≤ R.cells) (hz : c'.2.2.2.2.2.2 ≤ R.slots) (kk : eKW p l e R s m args below meth c Q M D cA A bv0 N0 ad0 c') : eKW p l e R s m args below meth c Q M D cA A bv0 N0 ad0 (pc, lv, st, N, h, k, z) := by
  simp only [eDo] at hs
  split at hs
  · rename_i x hx
    obtain rfl := eGo_inj hs
    exact eg_dload F hd hx kk
  · cases hs
theorem eD_fload (F : eFr S p l s m args meth c ox M D cA A bv0) (hRf : 8 ≤ R.frames) (hRl : 200 ≤ R.locals) (hN : N0 ≤ N) {j : Nat} (hd : decode M.2.2.1 pc = .ok (.fload j, eSz pc (.fload j))) (ht : eTgOk pc tg (.fload j) = true) (hs : eDo ox M (.fload j) tg pc lv st N h k z = some (.inl c')) (hk : c'.2.2.2.2.2.1 ≤ R.cells) (hz : c'.2.2.2.2.2.2 ≤ R.slots) (kk : eKW p l e R s m args below meth c Q M D cA A bv0 N0 ad0 c') : eKW p l e R s m args below meth c Q M D cA A bv0 N0 ad0 (pc, lv, st, N, h, k, z) := by
  simp only [eDo] at hs
  split at hs
  · rename_i x hx
    obtain rfl := eGo_inj hs
    exact eg_fload F hd hx kk
  · cases hs
theorem eD_dstore (F : eFr S p l s m args meth c ox M D cA A bv0) (hRf : 8 ≤ R.frames) (hRl : 200 ≤ R.locals) (hN : N0 ≤ N) {j : Nat} (hd : decode M.2.2.1 pc = .ok (.dstore j, eSz pc (.dstore j))) (ht : eTgOk pc tg (.dstore j) = true) (hs : eDo ox M (.dstore j) tg pc lv st N h k z = some (.inl c')) (hk : c'.2.2.2.2.2.1 ≤ R.cells) (hz : c'.2.2.2.2.2.2 ≤ R.slots) (kk : eKW p l e R s m args below meth c Q M D cA A bv0 N0 ad0 c') : eKW p l e R s m args below meth c Q M D cA A bv0 N0 ad0 (pc, lv, st, N, h, k, z) := by
  simp only [eDo] at hs
  split at hs
  · split at hs
    · rename_i hj
      obtain rfl := eGo_inj hs
      exact eg_dstore F hd hj kk
    · cases hs
  · cases hs
theorem eD_fstore (F : eFr S p l s m args meth c ox M D cA A bv0) (hRf : 8 ≤ R.frames) (hRl : 200 ≤ R.locals) (hN : N0 ≤ N) {j : Nat} (hd : decode M.2.2.1 pc = .ok (.fstore j, eSz pc (.fstore j))) (ht : eTgOk pc tg (.fstore j) = true) (hs : eDo ox M (.fstore j) tg pc lv st N h k z = some (.inl c')) (hk : c'.2.2.2.2.2.1 ≤ R.cells) (hz : c'.2.2.2.2.2.2 ≤ R.slots) (kk : eKW p l e R s m args below meth c Q M D cA A bv0 N0 ad0 c') : eKW p l e R s m args below meth c Q M D cA A bv0 N0 ad0 (pc, lv, st, N, h, k, z) := by
  simp only [eDo] at hs
  split at hs
  · split at hs
    · rename_i hj
      obtain rfl := eGo_inj hs
      exact eg_fstore F hd hj kk
    · cases hs
  · cases hs
theorem eDo_go (F : eFr S p l s m args meth c ox M D cA A bv0) (hRf : 8 ≤ R.frames) (hRl : 200 ≤ R.locals) (hN : N0 ≤ N) {i : Instr} (hd : decode M.2.2.1 pc = .ok (i, eSz pc i)) (ht : eTgOk pc tg i = true) (hs : eDo ox M i tg pc lv st N h k z = some (.inl c')) (hk : c'.2.2.2.2.2.1 ≤ R.cells) (hz : c'.2.2.2.2.2.2 ≤ R.slots) (kk : eKW p l e R s m args below meth c Q M D cA A bv0 N0 ad0 c') : eKW p l e R s m args below meth c Q M D cA A bv0 N0 ad0 (pc, lv, st, N, h, k, z) := by
  cases i with
  | iconst n => exact eD_iconst F hRf hRl hN hd ht hs hk hz kk
  | bipush n => exact eD_bipush F hRf hRl hN hd ht hs hk hz kk
  | sipush n => exact eD_sipush F hRf hRl hN hd ht hs hk hz kk
  | lconst n => exact eD_lconst F hRf hRl hN hd ht hs hk hz kk
  | goto x => exact eD_goto F hRf hRl hN hd ht hs hk hz kk
  | iadd => exact eD_iadd F hRf hRl hN hd ht hs hk hz kk
  | isub => exact eD_isub F hRf hRl hN hd ht hs hk hz kk
  | imul => exact eD_imul F hRf hRl hN hd ht hs hk hz kk
  | iand => exact eD_iand F hRf hRl hN hd ht hs hk hz kk
  | ior => exact eD_ior F hRf hRl hN hd ht hs hk hz kk
  | ixor => exact eD_ixor F hRf hRl hN hd ht hs hk hz kk
  | ishl => exact eD_ishl F hRf hRl hN hd ht hs hk hz kk
  | ishr => exact eD_ishr F hRf hRl hN hd ht hs hk hz kk
  | iushr => exact eD_iushr F hRf hRl hN hd ht hs hk hz kk
  | ladd => exact eD_ladd F hRf hRl hN hd ht hs hk hz kk
  | lsub => exact eD_lsub F hRf hRl hN hd ht hs hk hz kk
  | lmul => exact eD_lmul F hRf hRl hN hd ht hs hk hz kk
  | land => exact eD_land F hRf hRl hN hd ht hs hk hz kk
  | idiv => exact eD_idiv F hRf hRl hN hd ht hs hk hz kk
  | irem => exact eD_irem F hRf hRl hN hd ht hs hk hz kk
  | ineg => exact eD_ineg F hRf hRl hN hd ht hs hk hz kk
  | i2l => exact eD_i2l F hRf hRl hN hd ht hs hk hz kk
  | i2b => exact eD_i2b F hRf hRl hN hd ht hs hk hz kk
  | i2c => exact eD_i2c F hRf hRl hN hd ht hs hk hz kk
  | lshl => exact eD_lshl F hRf hRl hN hd ht hs hk hz kk
  | lcmp => exact eD_lcmp F hRf hRl hN hd ht hs hk hz kk
  | dup => exact eD_dup F hRf hRl hN hd ht hs hk hz kk
  | pop => exact eD_pop F hRf hRl hN hd ht hs hk hz kk
  | dup_x1 => exact eD_dup_x1 F hRf hRl hN hd ht hs hk hz kk
  | dup2 => exact eD_dup2 F hRf hRl hN hd ht hs hk hz kk
  | iaload => exact eD_iaload F hRf hRl hN hd ht hs hk hz kk
  | baload => exact eD_baload F hRf hRl hN hd ht hs hk hz kk
  | caload => exact eD_caload F hRf hRl hN hd ht hs hk hz kk
  | laload => exact eD_laload F hRf hRl hN hd ht hs hk hz kk
  | daload => exact eD_daload F hRf hRl hN hd ht hs hk hz kk
  | aaload => exact eD_aaload F hRf hRl hN hd ht hs hk hz kk
  | iastore => exact eD_iastore F hRf hRl hN hd ht hs hk hz kk
  | bastore => exact eD_bastore F hRf hRl hN hd ht hs hk hz kk
  | castore => exact eD_castore F hRf hRl hN hd ht hs hk hz kk
  | lastore => exact eD_lastore F hRf hRl hN hd ht hs hk hz kk
  | dastore => exact eD_dastore F hRf hRl hN hd ht hs hk hz kk
  | aastore => exact eD_aastore F hRf hRl hN hd ht hs hk hz kk
  | arraylength => exact eD_arraylength F hRf hRl hN hd ht hs hk hz kk
  | i2d => exact eD_i2d F hRf hRl hN hd ht hs hk hz kk
  | i2f => exact eD_i2f F hRf hRl hN hd ht hs hk hz kk
  | ddiv => exact eD_ddiv F hRf hRl hN hd ht hs hk hz kk
  | fdiv => exact eD_fdiv F hRf hRl hN hd ht hs hk hz kk
  | f2d => exact eD_f2d F hRf hRl hN hd ht hs hk hz kk
  | iload_n j => exact eD_iload_n F hRf hRl hN hd ht hs hk hz kk
  | iload j => exact eD_iload F hRf hRl hN hd ht hs hk hz kk
  | lload_n j => exact eD_lload_n F hRf hRl hN hd ht hs hk hz kk
  | lload j => exact eD_lload F hRf hRl hN hd ht hs hk hz kk
  | aload_n j => exact eD_aload_n F hRf hRl hN hd ht hs hk hz kk
  | aload j => exact eD_aload F hRf hRl hN hd ht hs hk hz kk
  | istore_n j => exact eD_istore_n F hRf hRl hN hd ht hs hk hz kk
  | istore j => exact eD_istore F hRf hRl hN hd ht hs hk hz kk
  | lstore_n j => exact eD_lstore_n F hRf hRl hN hd ht hs hk hz kk
  | lstore j => exact eD_lstore F hRf hRl hN hd ht hs hk hz kk
  | astore_n j => exact eD_astore_n F hRf hRl hN hd ht hs hk hz kk
  | astore j => exact eD_astore F hRf hRl hN hd ht hs hk hz kk
  | iinc j n => exact eD_iinc F hRf hRl hN hd ht hs hk hz kk
  | ifnull x => exact eD_ifnull F hRf hRl hN hd ht hs hk hz kk
  | ifCond q x => exact eD_ifCond F hRf hRl hN hd ht hs hk hz kk
  | if_icmp q x => exact eD_if_icmp F hRf hRl hN hd ht hs hk hz kk
  | getfield x => exact eD_getfield F hRf hRl hN hd ht hs hk hz kk
  | putfield x => exact eD_putfield F hRf hRl hN hd ht hs hk hz kk
  | getstatic x => exact eD_getstatic F hRf hRl hN hd ht hs hk hz kk
  | ldc x => exact eD_ldc F hRf hRl hN hd ht hs hk hz kk
  | ldc_w x => exact eD_ldc_w F hRf hRl hN hd ht hs hk hz kk
  | ldc2_w x => exact eD_ldc2_w F hRf hRl hN hd ht hs hk hz kk
  | new x => exact eD_new F hRf hRl hN hd ht hs hk hz kk
  | newarray t => exact eD_newarray F hRf hRl hN hd ht hs hk hz kk
  | anewarray x => exact eD_anewarray F hRf hRl hN hd ht hs hk hz kk
  | tableswitch d lo hi offs => exact eD_tableswitch F hRf hRl hN hd ht hs hk hz kk
  | lookupswitch d ps => exact eD_lookupswitch F hRf hRl hN hd ht hs hk hz kk
  | invokevirtual x => exact eD_invokevirtual F hRf hRl hN hd ht hs hk hz kk
  | invokestatic x => exact eD_invokestatic F hRf hRl hN hd ht hs hk hz kk
  | invokespecial x => exact eD_invokespecial F hRf hRl hN hd ht hs hk hz kk
  | dcmp op => exact eD_dcmp F hRf hRl hN hd ht hs hk hz kk
  | fcmp op => exact eD_fcmp F hRf hRl hN hd ht hs hk hz kk
  | dconst j => exact eD_dconst F hRf hRl hN hd ht hs hk hz kk
  | fconst j => exact eD_fconst F hRf hRl hN hd ht hs hk hz kk
  | dload j => exact eD_dload F hRf hRl hN hd ht hs hk hz kk
  | fload j => exact eD_fload F hRf hRl hN hd ht hs hk hz kk
  | dstore j => exact eD_dstore F hRf hRl hN hd ht hs hk hz kk
  | fstore j => exact eD_fstore F hRf hRl hN hd ht hs hk hz kk
  | ireturn =>
    simp only [eDo] at hs
    split at hs <;> first | cases hs | (split at hs <;> cases hs)
  | lreturn =>
    simp only [eDo] at hs
    split at hs <;> cases hs
  | areturn =>
    simp only [eDo] at hs
    split at hs <;> cases hs
  | return_ =>
    simp only [eDo] at hs
    split at hs <;> cases hs
  | dreturn =>
    simp only [eDo] at hs
    split at hs <;> cases hs
  | freturn =>
    simp only [eDo] at hs
    split at hs <;> cases hs
  | _ => simp [eDo] at hs
theorem eStep_go (F : eFr S p l s m args meth c ox M D cA A bv0) (hRf : 8 ≤ R.frames) (hRl : 200 ≤ R.locals) {cf : eC} (hN : N0 ≤ cf.2.2.2.1) (hs : eStep ox M cf = some (.inl c')) (hk : c'.2.2.2.2.2.1 ≤ R.cells) (hz : c'.2.2.2.2.2.2 ≤ R.slots) (kk : eKW p l e R s m args below meth c Q M D cA A bv0 N0 ad0 c') : eKW p l e R s m args below meth c Q M D cA A bv0 N0 ad0 cf := by
  obtain ⟨pc, lv, st, N, h, k, z⟩ := cf
  unfold eStep at hs
  split at hs
  · rename_i i tg hi
    obtain ⟨h1, h2⟩ := F.2.2.2.2.2.2.2.2.2.2.2.2.2.2 _ (eLk_mem hi)
    exact eDo_go F hRf hRl hN h1 h2 hs hk hz kk
  · cases hs
end EFL
theorem eMono_go {N k z : Nat} {pc : Nat} {lv : eLv} {st : List Value} {N1 k1 z1 : Nat} {h : eHp} {c' : eC} (e : eGo pc lv st N1 h k1 z1 = some (.inl c')) (a : N ≤ N1) (b : k ≤ k1) (d : z ≤ z1) : N ≤ c'.2.2.2.1 ∧ k ≤ c'.2.2.2.2.2.1 ∧ z ≤ c'.2.2.2.2.2.2 := by
  obtain rfl := eGo_inj e
  exact ⟨a, b, d⟩
set_option maxHeartbeats 4000000 in
theorem eDo_mono {ox : Nat → Option (Nat × Nat × (Nat → Int32))} {M : eM} {i : Instr} {tg pc : Nat} {lv : eLv} {st : List Value} {N : Nat} {h : eHp} {k z : Nat} {c' : eC} (hs : eDo ox M i tg pc lv st N h k z = some (.inl c')) : N ≤ c'.2.2.2.1 ∧ k ≤ c'.2.2.2.2.2.1 ∧ z ≤ c'.2.2.2.2.2.2 := by
  unfold eDo at hs
  split at hs <;> (try simp only [eLi, eLl, eLa, eSi, eSl, eSa, eB, eBl, eIf, eAl, eAlL, eAlD, eAlA, eAs, eAsL, eAsD, eAsA, eLen, eMk, eCopy, eGet, ePut, eNwa, eInv] at hs) <;> (repeat' (split at hs)) <;> first | (cases hs; done) | exact eMono_go hs (Nat.le_refl _) (Nat.le_refl _) (Nat.le_refl _) | exact eMono_go hs (Nat.le_succ _) (Nat.le_succ _) (Nat.le_add_right _ _) | contradiction
