/-! one step of the machine is a step of the JVM -/
theorem eGo_inj {pc : Nat} {lv : eLv} {st : List Value} {N : Nat} {h : eHp} {k z : Nat} {c' : eC} (e : eGo pc lv st N h k z = some (.inl c')) : (pc, lv, st, N, h, k, z) = c' := Sum.inl.inj (Option.some.inj e)
section ED
variable {S : List (String × Nat × String)} {p : Program} {l : Launch} {e : Env} {R : Room} {s : State} {m : MethodId} {args : Array Value} {below : List Frame} {meth : Method} {c : Code} {Q : State → Prop} {ox : Nat → Option (Nat × Nat × (Nat → Int32))} {M : eM} {D : va_G} {cA : Nat → ClassId} {A : Nat → Prop} {bv0 : Nat → Value} {N0 : Nat} {ad0 : Nat → Nat}
variable {pc tg : Nat} {lv : eLv} {st : List Value} {N : Nat} {h : eHp} {k z : Nat} {c' : eC}
theorem eD_iconst (F : eFr S p l s m args meth c ox M D cA A bv0) (hRf : 8 ≤ R.frames) (hRl : 200 ≤ R.locals) (hN : N0 ≤ N) {n : Int} (hd : decode M.2.2.1 pc = .ok (.iconst n, eSz pc (.iconst n))) (ht : eTgOk pc tg (.iconst n) = true) (hs : eDo ox M (.iconst n) tg pc lv st N h k z = some (.inl c')) (hk : c'.2.2.2.2.2.1 ≤ R.cells) (hz : c'.2.2.2.2.2.2 ≤ R.slots) (kk : eKW p l e R s m args below meth c Q M D cA A bv0 N0 ad0 c') : eKW p l e R s m args below meth c Q M D cA A bv0 N0 ad0 (pc, lv, st, N, h, k, z) := by
  obtain rfl := eGo_inj hs
  exact eg_iconst F hd kk
theorem eD_bipush (F : eFr S p l s m args meth c ox M D cA A bv0) (hRf : 8 ≤ R.frames) (hRl : 200 ≤ R.locals) (hN : N0 ≤ N) {n : Int} (hd : decode M.2.2.1 pc = .ok (.bipush n, eSz pc (.bipush n))) (ht : eTgOk pc tg (.bipush n) = true) (hs : eDo ox M (.bipush n) tg pc lv st N h k z = some (.inl c')) (hk : c'.2.2.2.2.2.1 ≤ R.cells) (hz : c'.2.2.2.2.2.2 ≤ R.slots) (kk : eKW p l e R s m args below meth c Q M D cA A bv0 N0 ad0 c') : eKW p l e R s m args below meth c Q M D cA A bv0 N0 ad0 (pc, lv, st, N, h, k, z) := by
  obtain rfl := eGo_inj hs
  exact eg_bipush F hd kk
theorem eD_sipush (F : eFr S p l s m args meth c ox M D cA A bv0) (hRf : 8 ≤ R.frames) (hRl : 200 ≤ R.locals) (hN : N0 ≤ N) {n : Int} (hd : decode M.2.2.1 pc = .ok (.sipush n, eSz pc (.sipush n))) (ht : eTgOk pc tg (.sipush n) = true) (hs : eDo ox M (.sipush n) tg pc lv st N h k z = some (.inl c')) (hk : c'.2.2.2.2.2.1 ≤ R.cells) (hz : c'.2.2.2.2.2.2 ≤ R.slots) (kk : eKW p l e R s m args below meth c Q M D cA A bv0 N0 ad0 c') : eKW p l e R s m args below meth c Q M D cA A bv0 N0 ad0 (pc, lv, st, N, h, k, z) := by
  obtain rfl := eGo_inj hs
  exact eg_sipush F hd kk
theorem eD_lconst (F : eFr S p l s m args meth c ox M D cA A bv0) (hRf : 8 ≤ R.frames) (hRl : 200 ≤ R.locals) (hN : N0 ≤ N) {n : Fin 2} (hd : decode M.2.2.1 pc = .ok (.lconst n, eSz pc (.lconst n))) (ht : eTgOk pc tg (.lconst n) = true) (hs : eDo ox M (.lconst n) tg pc lv st N h k z = some (.inl c')) (hk : c'.2.2.2.2.2.1 ≤ R.cells) (hz : c'.2.2.2.2.2.2 ≤ R.slots) (kk : eKW p l e R s m args below meth c Q M D cA A bv0 N0 ad0 c') : eKW p l e R s m args below meth c Q M D cA A bv0 N0 ad0 (pc, lv, st, N, h, k, z) := by
  obtain rfl := eGo_inj hs
  exact eg_lconst F hd kk
theorem eTg_goto {pc tg : Nat} {x : Int} (h : eTgOk pc tg (.goto x) = true) : (pc : Int) + x = (tg : Int) := of_decide_eq_true h
theorem eD_goto (F : eFr S p l s m args meth c ox M D cA A bv0) (hRf : 8 ≤ R.frames) (hRl : 200 ≤ R.locals) (hN : N0 ≤ N) {x : Int} (hd : decode M.2.2.1 pc = .ok (.goto x, eSz pc (.goto x))) (ht : eTgOk pc tg (.goto x) = true) (hs : eDo ox M (.goto x) tg pc lv st N h k z = some (.inl c')) (hk : c'.2.2.2.2.2.1 ≤ R.cells) (hz : c'.2.2.2.2.2.2 ≤ R.slots) (kk : eKW p l e R s m args below meth c Q M D cA A bv0 N0 ad0 c') : eKW p l e R s m args below meth c Q M D cA A bv0 N0 ad0 (pc, lv, st, N, h, k, z) := by
  obtain rfl := eGo_inj hs
  exact eg_goto F hd (eTg_goto ht) kk
theorem eD_iadd (F : eFr S p l s m args meth c ox M D cA A bv0) (hRf : 8 ≤ R.frames) (hRl : 200 ≤ R.locals) (hN : N0 ≤ N) (hd : decode M.2.2.1 pc = .ok (.iadd, eSz pc (.iadd))) (ht : eTgOk pc tg (.iadd) = true) (hs : eDo ox M (.iadd) tg pc lv st N h k z = some (.inl c')) (hk : c'.2.2.2.2.2.1 ≤ R.cells) (hz : c'.2.2.2.2.2.2 ≤ R.slots) (kk : eKW p l e R s m args below meth c Q M D cA A bv0 N0 ad0 c') : eKW p l e R s m args below meth c Q M D cA A bv0 N0 ad0 (pc, lv, st, N, h, k, z) := by
  simp only [eDo, eB] at hs
  split at hs
  · obtain rfl := eGo_inj hs
    exact eg_iadd F hd kk
  · cases hs
theorem eD_isub (F : eFr S p l s m args meth c ox M D cA A bv0) (hRf : 8 ≤ R.frames) (hRl : 200 ≤ R.locals) (hN : N0 ≤ N) (hd : decode M.2.2.1 pc = .ok (.isub, eSz pc (.isub))) (ht : eTgOk pc tg (.isub) = true) (hs : eDo ox M (.isub) tg pc lv st N h k z = some (.inl c')) (hk : c'.2.2.2.2.2.1 ≤ R.cells) (hz : c'.2.2.2.2.2.2 ≤ R.slots) (kk : eKW p l e R s m args below meth c Q M D cA A bv0 N0 ad0 c') : eKW p l e R s m args below meth c Q M D cA A bv0 N0 ad0 (pc, lv, st, N, h, k, z) := by
  simp only [eDo, eB] at hs
  split at hs
  · obtain rfl := eGo_inj hs
    exact eg_isub F hd kk
  · cases hs
theorem eD_imul (F : eFr S p l s m args meth c ox M D cA A bv0) (hRf : 8 ≤ R.frames) (hRl : 200 ≤ R.locals) (hN : N0 ≤ N) (hd : decode M.2.2.1 pc = .ok (.imul, eSz pc (.imul))) (ht : eTgOk pc tg (.imul) = true) (hs : eDo ox M (.imul) tg pc lv st N h k z = some (.inl c')) (hk : c'.2.2.2.2.2.1 ≤ R.cells) (hz : c'.2.2.2.2.2.2 ≤ R.slots) (kk : eKW p l e R s m args below meth c Q M D cA A bv0 N0 ad0 c') : eKW p l e R s m args below meth c Q M D cA A bv0 N0 ad0 (pc, lv, st, N, h, k, z) := by
  simp only [eDo, eB] at hs
  split at hs
  · obtain rfl := eGo_inj hs
    exact eg_imul F hd kk
  · cases hs
theorem eD_iand (F : eFr S p l s m args meth c ox M D cA A bv0) (hRf : 8 ≤ R.frames) (hRl : 200 ≤ R.locals) (hN : N0 ≤ N) (hd : decode M.2.2.1 pc = .ok (.iand, eSz pc (.iand))) (ht : eTgOk pc tg (.iand) = true) (hs : eDo ox M (.iand) tg pc lv st N h k z = some (.inl c')) (hk : c'.2.2.2.2.2.1 ≤ R.cells) (hz : c'.2.2.2.2.2.2 ≤ R.slots) (kk : eKW p l e R s m args below meth c Q M D cA A bv0 N0 ad0 c') : eKW p l e R s m args below meth c Q M D cA A bv0 N0 ad0 (pc, lv, st, N, h, k, z) := by
  simp only [eDo, eB] at hs
  split at hs
  · obtain rfl := eGo_inj hs
    exact eg_iand F hd kk
  · cases hs
theorem eD_ior (F : eFr S p l s m args meth c ox M D cA A bv0) (hRf : 8 ≤ R.frames) (hRl : 200 ≤ R.locals) (hN : N0 ≤ N) (hd : decode M.2.2.1 pc = .ok (.ior, eSz pc (.ior))) (ht : eTgOk pc tg (.ior) = true) (hs : eDo ox M (.ior) tg pc lv st N h k z = some (.inl c')) (hk : c'.2.2.2.2.2.1 ≤ R.cells) (hz : c'.2.2.2.2.2.2 ≤ R.slots) (kk : eKW p l e R s m args below meth c Q M D cA A bv0 N0 ad0 c') : eKW p l e R s m args below meth c Q M D cA A bv0 N0 ad0 (pc, lv, st, N, h, k, z) := by
  simp only [eDo, eB] at hs
  split at hs
  · obtain rfl := eGo_inj hs
    exact eg_ior F hd kk
  · cases hs
theorem eD_ixor (F : eFr S p l s m args meth c ox M D cA A bv0) (hRf : 8 ≤ R.frames) (hRl : 200 ≤ R.locals) (hN : N0 ≤ N) (hd : decode M.2.2.1 pc = .ok (.ixor, eSz pc (.ixor))) (ht : eTgOk pc tg (.ixor) = true) (hs : eDo ox M (.ixor) tg pc lv st N h k z = some (.inl c')) (hk : c'.2.2.2.2.2.1 ≤ R.cells) (hz : c'.2.2.2.2.2.2 ≤ R.slots) (kk : eKW p l e R s m args below meth c Q M D cA A bv0 N0 ad0 c') : eKW p l e R s m args below meth c Q M D cA A bv0 N0 ad0 (pc, lv, st, N, h, k, z) := by
  simp only [eDo, eB] at hs
  split at hs
  · obtain rfl := eGo_inj hs
    exact eg_ixor F hd kk
  · cases hs
theorem eD_ishl (F : eFr S p l s m args meth c ox M D cA A bv0) (hRf : 8 ≤ R.frames) (hRl : 200 ≤ R.locals) (hN : N0 ≤ N) (hd : decode M.2.2.1 pc = .ok (.ishl, eSz pc (.ishl))) (ht : eTgOk pc tg (.ishl) = true) (hs : eDo ox M (.ishl) tg pc lv st N h k z = some (.inl c')) (hk : c'.2.2.2.2.2.1 ≤ R.cells) (hz : c'.2.2.2.2.2.2 ≤ R.slots) (kk : eKW p l e R s m args below meth c Q M D cA A bv0 N0 ad0 c') : eKW p l e R s m args below meth c Q M D cA A bv0 N0 ad0 (pc, lv, st, N, h, k, z) := by
  simp only [eDo, eB] at hs
  split at hs
  · obtain rfl := eGo_inj hs
    exact eg_ishl F hd kk
  · cases hs
theorem eD_ishr (F : eFr S p l s m args meth c ox M D cA A bv0) (hRf : 8 ≤ R.frames) (hRl : 200 ≤ R.locals) (hN : N0 ≤ N) (hd : decode M.2.2.1 pc = .ok (.ishr, eSz pc (.ishr))) (ht : eTgOk pc tg (.ishr) = true) (hs : eDo ox M (.ishr) tg pc lv st N h k z = some (.inl c')) (hk : c'.2.2.2.2.2.1 ≤ R.cells) (hz : c'.2.2.2.2.2.2 ≤ R.slots) (kk : eKW p l e R s m args below meth c Q M D cA A bv0 N0 ad0 c') : eKW p l e R s m args below meth c Q M D cA A bv0 N0 ad0 (pc, lv, st, N, h, k, z) := by
  simp only [eDo, eB] at hs
  split at hs
  · obtain rfl := eGo_inj hs
    exact eg_ishr F hd kk
  · cases hs
theorem eD_iushr (F : eFr S p l s m args meth c ox M D cA A bv0) (hRf : 8 ≤ R.frames) (hRl : 200 ≤ R.locals) (hN : N0 ≤ N) (hd : decode M.2.2.1 pc = .ok (.iushr, eSz pc (.iushr))) (ht : eTgOk pc tg (.iushr) = true) (hs : eDo ox M (.iushr) tg pc lv st N h k z = some (.inl c')) (hk : c'.2.2.2.2.2.1 ≤ R.cells) (hz : c'.2.2.2.2.2.2 ≤ R.slots) (kk : eKW p l e R s m args below meth c Q M D cA A bv0 N0 ad0 c') : eKW p l e R s m args below meth c Q M D cA A bv0 N0 ad0 (pc, lv, st, N, h, k, z) := by
  simp only [eDo, eB] at hs
  split at hs
  · obtain rfl := eGo_inj hs
    exact eg_iushr F hd kk
  · cases hs
theorem eD_ladd (F : eFr S p l s m args meth c ox M D cA A bv0) (hRf : 8 ≤ R.frames) (hRl : 200 ≤ R.locals) (hN : N0 ≤ N) (hd : decode M.2.2.1 pc = .ok (.ladd, eSz pc (.ladd))) (ht : eTgOk pc tg (.ladd) = true) (hs : eDo ox M (.ladd) tg pc lv st N h k z = some (.inl c')) (hk : c'.2.2.2.2.2.1 ≤ R.cells) (hz : c'.2.2.2.2.2.2 ≤ R.slots) (kk : eKW p l e R s m args below meth c Q M D cA A bv0 N0 ad0 c') : eKW p l e R s m args below meth c Q M D cA A bv0 N0 ad0 (pc, lv, st, N, h, k, z) := by
  simp only [eDo, eBl] at hs
  split at hs
  · obtain rfl := eGo_inj hs
    exact eg_ladd F hd kk
  · cases hs
theorem eD_lsub (F : eFr S p l s m args meth c ox M D cA A bv0) (hRf : 8 ≤ R.frames) (hRl : 200 ≤ R.locals) (hN : N0 ≤ N) (hd : decode M.2.2.1 pc = .ok (.lsub, eSz pc (.lsub))) (ht : eTgOk pc tg (.lsub) = true) (hs : eDo ox M (.lsub) tg pc lv st N h k z = some (.inl c')) (hk : c'.2.2.2.2.2.1 ≤ R.cells) (hz : c'.2.2.2.2.2.2 ≤ R.slots) (kk : eKW p l e R s m args below meth c Q M D cA A bv0 N0 ad0 c') : eKW p l e R s m args below meth c Q M D cA A bv0 N0 ad0 (pc, lv, st, N, h, k, z) := by
  simp only [eDo, eBl] at hs
  split at hs
  · obtain rfl := eGo_inj hs
    exact eg_lsub F hd kk
  · cases hs
theorem eD_lmul (F : eFr S p l s m args meth c ox M D cA A bv0) (hRf : 8 ≤ R.frames) (hRl : 200 ≤ R.locals) (hN : N0 ≤ N) (hd : decode M.2.2.1 pc = .ok (.lmul, eSz pc (.lmul))) (ht : eTgOk pc tg (.lmul) = true) (hs : eDo ox M (.lmul) tg pc lv st N h k z = some (.inl c')) (hk : c'.2.2.2.2.2.1 ≤ R.cells) (hz : c'.2.2.2.2.2.2 ≤ R.slots) (kk : eKW p l e R s m args below meth c Q M D cA A bv0 N0 ad0 c') : eKW p l e R s m args below meth c Q M D cA A bv0 N0 ad0 (pc, lv, st, N, h, k, z) := by
  simp only [eDo, eBl] at hs
  split at hs
  · obtain rfl := eGo_inj hs
    exact eg_lmul F hd kk
  · cases hs
theorem eD_land (F : eFr S p l s m args meth c ox M D cA A bv0) (hRf : 8 ≤ R.frames) (hRl : 200 ≤ R.locals) (hN : N0 ≤ N) (hd : decode M.2.2.1 pc = .ok (.land, eSz pc (.land))) (ht : eTgOk pc tg (.land) = true) (hs : eDo ox M (.land) tg pc lv st N h k z = some (.inl c')) (hk : c'.2.2.2.2.2.1 ≤ R.cells) (hz : c'.2.2.2.2.2.2 ≤ R.slots) (kk : eKW p l e R s m args below meth c Q M D cA A bv0 N0 ad0 c') : eKW p l e R s m args below meth c Q M D cA A bv0 N0 ad0 (pc, lv, st, N, h, k, z) := by
  simp only [eDo, eBl] at hs
  split at hs
  · obtain rfl := eGo_inj hs
    exact eg_land F hd kk
  · cases hs
theorem eD_idiv (F : eFr S p l s m args meth c ox M D cA A bv0) (hRf : 8 ≤ R.frames) (hRl : 200 ≤ R.locals) (hN : N0 ≤ N) (hd : decode M.2.2.1 pc = .ok (.idiv, eSz pc (.idiv))) (ht : eTgOk pc tg (.idiv) = true) (hs : eDo ox M (.idiv) tg pc lv st N h k z = some (.inl c')) (hk : c'.2.2.2.2.2.1 ≤ R.cells) (hz : c'.2.2.2.2.2.2 ≤ R.slots) (kk : eKW p l e R s m args below meth c Q M D cA A bv0 N0 ad0 c') : eKW p l e R s m args below meth c Q M D cA A bv0 N0 ad0 (pc, lv, st, N, h, k, z) := by
  simp only [eDo] at hs
  split at hs
  · split at hs
    · cases hs
    · rename_i hy
      obtain rfl := eGo_inj hs
      exact eg_idiv F hd (of_decide_eq_false hy) kk
  · cases hs
theorem eD_irem (F : eFr S p l s m args meth c ox M D cA A bv0) (hRf : 8 ≤ R.frames) (hRl : 200 ≤ R.locals) (hN : N0 ≤ N) (hd : decode M.2.2.1 pc = .ok (.irem, eSz pc (.irem))) (ht : eTgOk pc tg (.irem) = true) (hs : eDo ox M (.irem) tg pc lv st N h k z = some (.inl c')) (hk : c'.2.2.2.2.2.1 ≤ R.cells) (hz : c'.2.2.2.2.2.2 ≤ R.slots) (kk : eKW p l e R s m args below meth c Q M D cA A bv0 N0 ad0 c') : eKW p l e R s m args below meth c Q M D cA A bv0 N0 ad0 (pc, lv, st, N, h, k, z) := by
  simp only [eDo] at hs
  split at hs
  · split at hs
    · cases hs
    · rename_i hy
      obtain rfl := eGo_inj hs
      exact eg_irem F hd (of_decide_eq_false hy) kk
  · cases hs
theorem eD_ineg (F : eFr S p l s m args meth c ox M D cA A bv0) (hRf : 8 ≤ R.frames) (hRl : 200 ≤ R.locals) (hN : N0 ≤ N) (hd : decode M.2.2.1 pc = .ok (.ineg, eSz pc (.ineg))) (ht : eTgOk pc tg (.ineg) = true) (hs : eDo ox M (.ineg) tg pc lv st N h k z = some (.inl c')) (hk : c'.2.2.2.2.2.1 ≤ R.cells) (hz : c'.2.2.2.2.2.2 ≤ R.slots) (kk : eKW p l e R s m args below meth c Q M D cA A bv0 N0 ad0 c') : eKW p l e R s m args below meth c Q M D cA A bv0 N0 ad0 (pc, lv, st, N, h, k, z) := by
  simp only [eDo] at hs
  split at hs
  · obtain rfl := eGo_inj hs
    exact eg_ineg F hd kk
  · cases hs
theorem eD_i2l (F : eFr S p l s m args meth c ox M D cA A bv0) (hRf : 8 ≤ R.frames) (hRl : 200 ≤ R.locals) (hN : N0 ≤ N) (hd : decode M.2.2.1 pc = .ok (.i2l, eSz pc (.i2l))) (ht : eTgOk pc tg (.i2l) = true) (hs : eDo ox M (.i2l) tg pc lv st N h k z = some (.inl c')) (hk : c'.2.2.2.2.2.1 ≤ R.cells) (hz : c'.2.2.2.2.2.2 ≤ R.slots) (kk : eKW p l e R s m args below meth c Q M D cA A bv0 N0 ad0 c') : eKW p l e R s m args below meth c Q M D cA A bv0 N0 ad0 (pc, lv, st, N, h, k, z) := by
  simp only [eDo] at hs
  split at hs
  · obtain rfl := eGo_inj hs
    exact eg_i2l F hd kk
  · cases hs
theorem eD_i2b (F : eFr S p l s m args meth c ox M D cA A bv0) (hRf : 8 ≤ R.frames) (hRl : 200 ≤ R.locals) (hN : N0 ≤ N) (hd : decode M.2.2.1 pc = .ok (.i2b, eSz pc (.i2b))) (ht : eTgOk pc tg (.i2b) = true) (hs : eDo ox M (.i2b) tg pc lv st N h k z = some (.inl c')) (hk : c'.2.2.2.2.2.1 ≤ R.cells) (hz : c'.2.2.2.2.2.2 ≤ R.slots) (kk : eKW p l e R s m args below meth c Q M D cA A bv0 N0 ad0 c') : eKW p l e R s m args below meth c Q M D cA A bv0 N0 ad0 (pc, lv, st, N, h, k, z) := by
  simp only [eDo] at hs
  split at hs
  · obtain rfl := eGo_inj hs
    exact eg_i2b F hd kk
  · cases hs
theorem eD_i2c (F : eFr S p l s m args meth c ox M D cA A bv0) (hRf : 8 ≤ R.frames) (hRl : 200 ≤ R.locals) (hN : N0 ≤ N) (hd : decode M.2.2.1 pc = .ok (.i2c, eSz pc (.i2c))) (ht : eTgOk pc tg (.i2c) = true) (hs : eDo ox M (.i2c) tg pc lv st N h k z = some (.inl c')) (hk : c'.2.2.2.2.2.1 ≤ R.cells) (hz : c'.2.2.2.2.2.2 ≤ R.slots) (kk : eKW p l e R s m args below meth c Q M D cA A bv0 N0 ad0 c') : eKW p l e R s m args below meth c Q M D cA A bv0 N0 ad0 (pc, lv, st, N, h, k, z) := by
  simp only [eDo] at hs
  split at hs
  · obtain rfl := eGo_inj hs
    exact eg_i2c F hd kk
  · cases hs
theorem eD_lshl (F : eFr S p l s m args meth c ox M D cA A bv0) (hRf : 8 ≤ R.frames) (hRl : 200 ≤ R.locals) (hN : N0 ≤ N) (hd : decode M.2.2.1 pc = .ok (.lshl, eSz pc (.lshl))) (ht : eTgOk pc tg (.lshl) = true) (hs : eDo ox M (.lshl) tg pc lv st N h k z = some (.inl c')) (hk : c'.2.2.2.2.2.1 ≤ R.cells) (hz : c'.2.2.2.2.2.2 ≤ R.slots) (kk : eKW p l e R s m args below meth c Q M D cA A bv0 N0 ad0 c') : eKW p l e R s m args below meth c Q M D cA A bv0 N0 ad0 (pc, lv, st, N, h, k, z) := by
  simp only [eDo] at hs
  split at hs
  · obtain rfl := eGo_inj hs
    exact eg_lshl F hd kk
  · cases hs
theorem eD_lcmp (F : eFr S p l s m args meth c ox M D cA A bv0) (hRf : 8 ≤ R.frames) (hRl : 200 ≤ R.locals) (hN : N0 ≤ N) (hd : decode M.2.2.1 pc = .ok (.lcmp, eSz pc (.lcmp))) (ht : eTgOk pc tg (.lcmp) = true) (hs : eDo ox M (.lcmp) tg pc lv st N h k z = some (.inl c')) (hk : c'.2.2.2.2.2.1 ≤ R.cells) (hz : c'.2.2.2.2.2.2 ≤ R.slots) (kk : eKW p l e R s m args below meth c Q M D cA A bv0 N0 ad0 c') : eKW p l e R s m args below meth c Q M D cA A bv0 N0 ad0 (pc, lv, st, N, h, k, z) := by
  simp only [eDo] at hs
  split at hs
  · obtain rfl := eGo_inj hs
    exact eg_lcmp F hd kk
  · cases hs
theorem eD_iload_n (F : eFr S p l s m args meth c ox M D cA A bv0) (hRf : 8 ≤ R.frames) (hRl : 200 ≤ R.locals) (hN : N0 ≤ N) {j : Fin 4} (hd : decode M.2.2.1 pc = .ok (.iload_n j, eSz pc (.iload_n j))) (ht : eTgOk pc tg (.iload_n j) = true) (hs : eDo ox M (.iload_n j) tg pc lv st N h k z = some (.inl c')) (hk : c'.2.2.2.2.2.1 ≤ R.cells) (hz : c'.2.2.2.2.2.2 ≤ R.slots) (kk : eKW p l e R s m args below meth c Q M D cA A bv0 N0 ad0 c') : eKW p l e R s m args below meth c Q M D cA A bv0 N0 ad0 (pc, lv, st, N, h, k, z) := by
  simp only [eDo, eLi] at hs
  split at hs
  · rename_i x hx
    obtain rfl := eGo_inj hs
    exact eg_iload_n F hd hx kk
  · cases hs
theorem eD_iload (F : eFr S p l s m args meth c ox M D cA A bv0) (hRf : 8 ≤ R.frames) (hRl : 200 ≤ R.locals) (hN : N0 ≤ N) {j : Nat} (hd : decode M.2.2.1 pc = .ok (.iload j, eSz pc (.iload j))) (ht : eTgOk pc tg (.iload j) = true) (hs : eDo ox M (.iload j) tg pc lv st N h k z = some (.inl c')) (hk : c'.2.2.2.2.2.1 ≤ R.cells) (hz : c'.2.2.2.2.2.2 ≤ R.slots) (kk : eKW p l e R s m args below meth c Q M D cA A bv0 N0 ad0 c') : eKW p l e R s m args below meth c Q M D cA A bv0 N0 ad0 (pc, lv, st, N, h, k, z) := by
  simp only [eDo, eLi] at hs
  split at hs
  · rename_i x hx
    obtain rfl := eGo_inj hs
    exact eg_iload F hd hx kk
  · cases hs
theorem eD_lload_n (F : eFr S p l s m args meth c ox M D cA A bv0) (hRf : 8 ≤ R.frames) (hRl : 200 ≤ R.locals) (hN : N0 ≤ N) {j : Fin 4} (hd : decode M.2.2.1 pc = .ok (.lload_n j, eSz pc (.lload_n j))) (ht : eTgOk pc tg (.lload_n j) = true) (hs : eDo ox M (.lload_n j) tg pc lv st N h k z = some (.inl c')) (hk : c'.2.2.2.2.2.1 ≤ R.cells) (hz : c'.2.2.2.2.2.2 ≤ R.slots) (kk : eKW p l e R s m args below meth c Q M D cA A bv0 N0 ad0 c') : eKW p l e R s m args below meth c Q M D cA A bv0 N0 ad0 (pc, lv, st, N, h, k, z) := by
  simp only [eDo, eLl] at hs
  split at hs
  · rename_i x hx
    obtain rfl := eGo_inj hs
    exact eg_lload_n F hd hx kk
  · cases hs
theorem eD_lload (F : eFr S p l s m args meth c ox M D cA A bv0) (hRf : 8 ≤ R.frames) (hRl : 200 ≤ R.locals) (hN : N0 ≤ N) {j : Nat} (hd : decode M.2.2.1 pc = .ok (.lload j, eSz pc (.lload j))) (ht : eTgOk pc tg (.lload j) = true) (hs : eDo ox M (.lload j) tg pc lv st N h k z = some (.inl c')) (hk : c'.2.2.2.2.2.1 ≤ R.cells) (hz : c'.2.2.2.2.2.2 ≤ R.slots) (kk : eKW p l e R s m args below meth c Q M D cA A bv0 N0 ad0 c') : eKW p l e R s m args below meth c Q M D cA A bv0 N0 ad0 (pc, lv, st, N, h, k, z) := by
  simp only [eDo, eLl] at hs
  split at hs
  · rename_i x hx
    obtain rfl := eGo_inj hs
    exact eg_lload F hd hx kk
  · cases hs
theorem eD_aload_n (F : eFr S p l s m args meth c ox M D cA A bv0) (hRf : 8 ≤ R.frames) (hRl : 200 ≤ R.locals) (hN : N0 ≤ N) {j : Fin 4} (hd : decode M.2.2.1 pc = .ok (.aload_n j, eSz pc (.aload_n j))) (ht : eTgOk pc tg (.aload_n j) = true) (hs : eDo ox M (.aload_n j) tg pc lv st N h k z = some (.inl c')) (hk : c'.2.2.2.2.2.1 ≤ R.cells) (hz : c'.2.2.2.2.2.2 ≤ R.slots) (kk : eKW p l e R s m args below meth c Q M D cA A bv0 N0 ad0 c') : eKW p l e R s m args below meth c Q M D cA A bv0 N0 ad0 (pc, lv, st, N, h, k, z) := by
  simp only [eDo, eLa] at hs
  split at hs
  · rename_i x hx
    obtain rfl := eGo_inj hs
    exact eg_aload_n F hd hx kk
  · rename_i x hx
    obtain rfl := eGo_inj hs
    exact eg_aload_nX F hd hx kk
  · cases hs
theorem eD_aload (F : eFr S p l s m args meth c ox M D cA A bv0) (hRf : 8 ≤ R.frames) (hRl : 200 ≤ R.locals) (hN : N0 ≤ N) {j : Nat} (hd : decode M.2.2.1 pc = .ok (.aload j, eSz pc (.aload j))) (ht : eTgOk pc tg (.aload j) = true) (hs : eDo ox M (.aload j) tg pc lv st N h k z = some (.inl c')) (hk : c'.2.2.2.2.2.1 ≤ R.cells) (hz : c'.2.2.2.2.2.2 ≤ R.slots) (kk : eKW p l e R s m args below meth c Q M D cA A bv0 N0 ad0 c') : eKW p l e R s m args below meth c Q M D cA A bv0 N0 ad0 (pc, lv, st, N, h, k, z) := by
  simp only [eDo, eLa] at hs
  split at hs
  · rename_i x hx
    obtain rfl := eGo_inj hs
    exact eg_aload F hd hx kk
  · rename_i x hx
    obtain rfl := eGo_inj hs
    exact eg_aloadX F hd hx kk
  · cases hs
theorem eD_istore_n (F : eFr S p l s m args meth c ox M D cA A bv0) (hRf : 8 ≤ R.frames) (hRl : 200 ≤ R.locals) (hN : N0 ≤ N) {j : Fin 4} (hd : decode M.2.2.1 pc = .ok (.istore_n j, eSz pc (.istore_n j))) (ht : eTgOk pc tg (.istore_n j) = true) (hs : eDo ox M (.istore_n j) tg pc lv st N h k z = some (.inl c')) (hk : c'.2.2.2.2.2.1 ≤ R.cells) (hz : c'.2.2.2.2.2.2 ≤ R.slots) (kk : eKW p l e R s m args below meth c Q M D cA A bv0 N0 ad0 c') : eKW p l e R s m args below meth c Q M D cA A bv0 N0 ad0 (pc, lv, st, N, h, k, z) := by
  simp only [eDo, eSi] at hs
  split at hs
  · split at hs
    · rename_i hj
      obtain rfl := eGo_inj hs
      exact eg_istore_n F hd hj kk
    · cases hs
  · cases hs
theorem eD_istore (F : eFr S p l s m args meth c ox M D cA A bv0) (hRf : 8 ≤ R.frames) (hRl : 200 ≤ R.locals) (hN : N0 ≤ N) {j : Nat} (hd : decode M.2.2.1 pc = .ok (.istore j, eSz pc (.istore j))) (ht : eTgOk pc tg (.istore j) = true) (hs : eDo ox M (.istore j) tg pc lv st N h k z = some (.inl c')) (hk : c'.2.2.2.2.2.1 ≤ R.cells) (hz : c'.2.2.2.2.2.2 ≤ R.slots) (kk : eKW p l e R s m args below meth c Q M D cA A bv0 N0 ad0 c') : eKW p l e R s m args below meth c Q M D cA A bv0 N0 ad0 (pc, lv, st, N, h, k, z) := by
  simp only [eDo, eSi] at hs
  split at hs
  · split at hs
    · rename_i hj
      obtain rfl := eGo_inj hs
      exact eg_istore F hd hj kk
    · cases hs
  · cases hs
theorem eD_lstore_n (F : eFr S p l s m args meth c ox M D cA A bv0) (hRf : 8 ≤ R.frames) (hRl : 200 ≤ R.locals) (hN : N0 ≤ N) {j : Fin 4} (hd : decode M.2.2.1 pc = .ok (.lstore_n j, eSz pc (.lstore_n j))) (ht : eTgOk pc tg (.lstore_n j) = true) (hs : eDo ox M (.lstore_n j) tg pc lv st N h k z = some (.inl c')) (hk : c'.2.2.2.2.2.1 ≤ R.cells) (hz : c'.2.2.2.2.2.2 ≤ R.slots) (kk : eKW p l e R s m args below meth c Q M D cA A bv0 N0 ad0 c') : eKW p l e R s m args below meth c Q M D cA A bv0 N0 ad0 (pc, lv, st, N, h, k, z) := by
  simp only [eDo, eSl] at hs
  split at hs
  · split at hs
    · rename_i hj
      obtain rfl := eGo_inj hs
      exact eg_lstore_n F hd hj kk
    · cases hs
  · cases hs
theorem eD_lstore (F : eFr S p l s m args meth c ox M D cA A bv0) (hRf : 8 ≤ R.frames) (hRl : 200 ≤ R.locals) (hN : N0 ≤ N) {j : Nat} (hd : decode M.2.2.1 pc = .ok (.lstore j, eSz pc (.lstore j))) (ht : eTgOk pc tg (.lstore j) = true) (hs : eDo ox M (.lstore j) tg pc lv st N h k z = some (.inl c')) (hk : c'.2.2.2.2.2.1 ≤ R.cells) (hz : c'.2.2.2.2.2.2 ≤ R.slots) (kk : eKW p l e R s m args below meth c Q M D cA A bv0 N0 ad0 c') : eKW p l e R s m args below meth c Q M D cA A bv0 N0 ad0 (pc, lv, st, N, h, k, z) := by
  simp only [eDo, eSl] at hs
  split at hs
  · split at hs
    · rename_i hj
      obtain rfl := eGo_inj hs
      exact eg_lstore F hd hj kk
    · cases hs
  · cases hs
theorem eD_astore_n (F : eFr S p l s m args meth c ox M D cA A bv0) (hRf : 8 ≤ R.frames) (hRl : 200 ≤ R.locals) (hN : N0 ≤ N) {j : Fin 4} (hd : decode M.2.2.1 pc = .ok (.astore_n j, eSz pc (.astore_n j))) (ht : eTgOk pc tg (.astore_n j) = true) (hs : eDo ox M (.astore_n j) tg pc lv st N h k z = some (.inl c')) (hk : c'.2.2.2.2.2.1 ≤ R.cells) (hz : c'.2.2.2.2.2.2 ≤ R.slots) (kk : eKW p l e R s m args below meth c Q M D cA A bv0 N0 ad0 c') : eKW p l e R s m args below meth c Q M D cA A bv0 N0 ad0 (pc, lv, st, N, h, k, z) := by
  simp only [eDo, eSa] at hs
  split at hs
  · split at hs
    · rename_i hj
      obtain rfl := eGo_inj hs
      exact eg_astore_n F hd hj kk
    · cases hs
  · split at hs
    · rename_i hj
      obtain rfl := eGo_inj hs
      exact eg_astore_nX F hd hj kk
    · cases hs
  · cases hs
theorem eD_astore (F : eFr S p l s m args meth c ox M D cA A bv0) (hRf : 8 ≤ R.frames) (hRl : 200 ≤ R.locals) (hN : N0 ≤ N) {j : Nat} (hd : decode M.2.2.1 pc = .ok (.astore j, eSz pc (.astore j))) (ht : eTgOk pc tg (.astore j) = true) (hs : eDo ox M (.astore j) tg pc lv st N h k z = some (.inl c')) (hk : c'.2.2.2.2.2.1 ≤ R.cells) (hz : c'.2.2.2.2.2.2 ≤ R.slots) (kk : eKW p l e R s m args below meth c Q M D cA A bv0 N0 ad0 c') : eKW p l e R s m args below meth c Q M D cA A bv0 N0 ad0 (pc, lv, st, N, h, k, z) := by
  simp only [eDo, eSa] at hs
  split at hs
  · split at hs
    · rename_i hj
      obtain rfl := eGo_inj hs
      exact eg_astore F hd hj kk
    · cases hs
  · split at hs
    · rename_i hj
      obtain rfl := eGo_inj hs
      exact eg_astoreX F hd hj kk
    · cases hs
  · cases hs
theorem eD_iinc (F : eFr S p l s m args meth c ox M D cA A bv0) (hRf : 8 ≤ R.frames) (hRl : 200 ≤ R.locals) (hN : N0 ≤ N) {j : Nat} {n : Int} (hd : decode M.2.2.1 pc = .ok (.iinc j n, eSz pc (.iinc j n))) (ht : eTgOk pc tg (.iinc j n) = true) (hs : eDo ox M (.iinc j n) tg pc lv st N h k z = some (.inl c')) (hk : c'.2.2.2.2.2.1 ≤ R.cells) (hz : c'.2.2.2.2.2.2 ≤ R.slots) (kk : eKW p l e R s m args below meth c Q M D cA A bv0 N0 ad0 c') : eKW p l e R s m args below meth c Q M D cA A bv0 N0 ad0 (pc, lv, st, N, h, k, z) := by
  simp only [eDo] at hs
  split at hs
  · rename_i x hx
    split at hs
    · rename_i hj
      obtain rfl := eGo_inj hs
      exact eg_iinc F hd hx hj kk
    · cases hs
  · cases hs
theorem eD_dup (F : eFr S p l s m args meth c ox M D cA A bv0) (hRf : 8 ≤ R.frames) (hRl : 200 ≤ R.locals) (hN : N0 ≤ N) (hd : decode M.2.2.1 pc = .ok (.dup, eSz pc (.dup))) (ht : eTgOk pc tg (.dup) = true) (hs : eDo ox M (.dup) tg pc lv st N h k z = some (.inl c')) (hk : c'.2.2.2.2.2.1 ≤ R.cells) (hz : c'.2.2.2.2.2.2 ≤ R.slots) (kk : eKW p l e R s m args below meth c Q M D cA A bv0 N0 ad0 c') : eKW p l e R s m args below meth c Q M D cA A bv0 N0 ad0 (pc, lv, st, N, h, k, z) := by
  simp only [eDo] at hs
  split at hs
  · split at hs
    · rename_i hv
      obtain rfl := eGo_inj hs
      exact eg_dup F hd hv kk
    · cases hs
  · cases hs
theorem eD_pop (F : eFr S p l s m args meth c ox M D cA A bv0) (hRf : 8 ≤ R.frames) (hRl : 200 ≤ R.locals) (hN : N0 ≤ N) (hd : decode M.2.2.1 pc = .ok (.pop, eSz pc (.pop))) (ht : eTgOk pc tg (.pop) = true) (hs : eDo ox M (.pop) tg pc lv st N h k z = some (.inl c')) (hk : c'.2.2.2.2.2.1 ≤ R.cells) (hz : c'.2.2.2.2.2.2 ≤ R.slots) (kk : eKW p l e R s m args below meth c Q M D cA A bv0 N0 ad0 c') : eKW p l e R s m args below meth c Q M D cA A bv0 N0 ad0 (pc, lv, st, N, h, k, z) := by
  simp only [eDo] at hs
  split at hs
  · split at hs
    · rename_i hv
      obtain rfl := eGo_inj hs
      exact eg_pop F hd hv kk
    · cases hs
  · cases hs
theorem eD_dup_x1 (F : eFr S p l s m args meth c ox M D cA A bv0) (hRf : 8 ≤ R.frames) (hRl : 200 ≤ R.locals) (hN : N0 ≤ N) (hd : decode M.2.2.1 pc = .ok (.dup_x1, eSz pc (.dup_x1))) (ht : eTgOk pc tg (.dup_x1) = true) (hs : eDo ox M (.dup_x1) tg pc lv st N h k z = some (.inl c')) (hk : c'.2.2.2.2.2.1 ≤ R.cells) (hz : c'.2.2.2.2.2.2 ≤ R.slots) (kk : eKW p l e R s m args below meth c Q M D cA A bv0 N0 ad0 c') : eKW p l e R s m args below meth c Q M D cA A bv0 N0 ad0 (pc, lv, st, N, h, k, z) := by
  simp only [eDo] at hs
  split at hs
  · split at hs
    · rename_i hv
      obtain rfl := eGo_inj hs
      rw [Bool.and_eq_true] at hv
      exact eg_dup_x1 F hd hv.1 hv.2 kk
    · cases hs
  · cases hs
theorem eD_dup2 (F : eFr S p l s m args meth c ox M D cA A bv0) (hRf : 8 ≤ R.frames) (hRl : 200 ≤ R.locals) (hN : N0 ≤ N) (hd : decode M.2.2.1 pc = .ok (.dup2, eSz pc (.dup2))) (ht : eTgOk pc tg (.dup2) = true) (hs : eDo ox M (.dup2) tg pc lv st N h k z = some (.inl c')) (hk : c'.2.2.2.2.2.1 ≤ R.cells) (hz : c'.2.2.2.2.2.2 ≤ R.slots) (kk : eKW p l e R s m args below meth c Q M D cA A bv0 N0 ad0 c') : eKW p l e R s m args below meth c Q M D cA A bv0 N0 ad0 (pc, lv, st, N, h, k, z) := by
  simp only [eDo] at hs
  split at hs
  · split at hs
    · rename_i hv
      obtain rfl := eGo_inj hs
      rw [Bool.and_eq_true] at hv
      exact eg_dup2 F hd hv.1 hv.2 kk
    · cases hs
  · cases hs
theorem eD_ifnull (F : eFr S p l s m args meth c ox M D cA A bv0) (hRf : 8 ≤ R.frames) (hRl : 200 ≤ R.locals) (hN : N0 ≤ N) {x : Int} (hd : decode M.2.2.1 pc = .ok (.ifnull x, eSz pc (.ifnull x))) (ht : eTgOk pc tg (.ifnull x) = true) (hs : eDo ox M (.ifnull x) tg pc lv st N h k z = some (.inl c')) (hk : c'.2.2.2.2.2.1 ≤ R.cells) (hz : c'.2.2.2.2.2.2 ≤ R.slots) (kk : eKW p l e R s m args below meth c Q M D cA A bv0 N0 ad0 c') : eKW p l e R s m args below meth c Q M D cA A bv0 N0 ad0 (pc, lv, st, N, h, k, z) := by
  simp only [eDo] at hs
  split at hs
  · obtain rfl := eGo_inj hs
    exact eg_ifnull F hd kk
  · cases hs
theorem eTg_ifCond {pc tg : Nat} {q : ClassFile.Cond} {x : Int} (h : eTgOk pc tg (.ifCond q x) = true) : (pc : Int) + x = (tg : Int) := of_decide_eq_true h
theorem eD_ifCond (F : eFr S p l s m args meth c ox M D cA A bv0) (hRf : 8 ≤ R.frames) (hRl : 200 ≤ R.locals) (hN : N0 ≤ N) {q : ClassFile.Cond} {x : Int} (hd : decode M.2.2.1 pc = .ok (.ifCond q x, eSz pc (.ifCond q x))) (ht : eTgOk pc tg (.ifCond q x) = true) (hs : eDo ox M (.ifCond q x) tg pc lv st N h k z = some (.inl c')) (hk : c'.2.2.2.2.2.1 ≤ R.cells) (hz : c'.2.2.2.2.2.2 ≤ R.slots) (kk : eKW p l e R s m args below meth c Q M D cA A bv0 N0 ad0 c') : eKW p l e R s m args below meth c Q M D cA A bv0 N0 ad0 (pc, lv, st, N, h, k, z) := by
  simp only [eDo, eIf] at hs
  split at hs
  · cases q with
    | eq =>
      split at hs
      · rename_i hc
        obtain rfl := eGo_inj hs
        exact eg_if_eq F hd (eTg_ifCond ht) hc kk
      · rename_i hc
        obtain rfl := eGo_inj hs
        exact eg_if_eq F hd (eTg_ifCond ht) hc kk
    | ne =>
      split at hs
      · rename_i hc
        obtain rfl := eGo_inj hs
        exact eg_if_ne F hd (eTg_ifCond ht) hc kk
      · rename_i hc
        obtain rfl := eGo_inj hs
        exact eg_if_ne F hd (eTg_ifCond ht) hc kk
    | lt =>
      split at hs
      · rename_i hc
        obtain rfl := eGo_inj hs
        exact eg_if_lt F hd (eTg_ifCond ht) hc kk
      · rename_i hc
        obtain rfl := eGo_inj hs
        exact eg_if_lt F hd (eTg_ifCond ht) hc kk
    | ge =>
      split at hs
      · rename_i hc
        obtain rfl := eGo_inj hs
        exact eg_if_ge F hd (eTg_ifCond ht) hc kk
      · rename_i hc
        obtain rfl := eGo_inj hs
        exact eg_if_ge F hd (eTg_ifCond ht) hc kk
    | gt =>
      split at hs
      · rename_i hc
        obtain rfl := eGo_inj hs
        exact eg_if_gt F hd (eTg_ifCond ht) hc kk
      · rename_i hc
        obtain rfl := eGo_inj hs
        exact eg_if_gt F hd (eTg_ifCond ht) hc kk
    | le =>
      split at hs
      · rename_i hc
        obtain rfl := eGo_inj hs
        exact eg_if_le F hd (eTg_ifCond ht) hc kk
      · rename_i hc
        obtain rfl := eGo_inj hs
        exact eg_if_le F hd (eTg_ifCond ht) hc kk
  · cases hs
theorem eTg_if_icmp {pc tg : Nat} {q : ClassFile.Cond} {x : Int} (h : eTgOk pc tg (.if_icmp q x) = true) : (pc : Int) + x = (tg : Int) := of_decide_eq_true h
theorem eD_if_icmp (F : eFr S p l s m args meth c ox M D cA A bv0) (hRf : 8 ≤ R.frames) (hRl : 200 ≤ R.locals) (hN : N0 ≤ N) {q : ClassFile.Cond} {x : Int} (hd : decode M.2.2.1 pc = .ok (.if_icmp q x, eSz pc (.if_icmp q x))) (ht : eTgOk pc tg (.if_icmp q x) = true) (hs : eDo ox M (.if_icmp q x) tg pc lv st N h k z = some (.inl c')) (hk : c'.2.2.2.2.2.1 ≤ R.cells) (hz : c'.2.2.2.2.2.2 ≤ R.slots) (kk : eKW p l e R s m args below meth c Q M D cA A bv0 N0 ad0 c') : eKW p l e R s m args below meth c Q M D cA A bv0 N0 ad0 (pc, lv, st, N, h, k, z) := by
  simp only [eDo, eIf] at hs
  split at hs
  · cases q with
    | eq =>
      split at hs
      · rename_i hc
        obtain rfl := eGo_inj hs
        exact eg_icmp_eq F hd (eTg_if_icmp ht) hc kk
      · rename_i hc
        obtain rfl := eGo_inj hs
        exact eg_icmp_eq F hd (eTg_if_icmp ht) hc kk
    | ne =>
      split at hs
      · rename_i hc
        obtain rfl := eGo_inj hs
        exact eg_icmp_ne F hd (eTg_if_icmp ht) hc kk
      · rename_i hc
        obtain rfl := eGo_inj hs
        exact eg_icmp_ne F hd (eTg_if_icmp ht) hc kk
    | lt =>
      split at hs
      · rename_i hc
        obtain rfl := eGo_inj hs
        exact eg_icmp_lt F hd (eTg_if_icmp ht) hc kk
      · rename_i hc
        obtain rfl := eGo_inj hs
        exact eg_icmp_lt F hd (eTg_if_icmp ht) hc kk
    | ge =>
      split at hs
      · rename_i hc
        obtain rfl := eGo_inj hs
        exact eg_icmp_ge F hd (eTg_if_icmp ht) hc kk
      · rename_i hc
        obtain rfl := eGo_inj hs
        exact eg_icmp_ge F hd (eTg_if_icmp ht) hc kk
    | gt =>
      split at hs
      · rename_i hc
        obtain rfl := eGo_inj hs
        exact eg_icmp_gt F hd (eTg_if_icmp ht) hc kk
      · rename_i hc
        obtain rfl := eGo_inj hs
        exact eg_icmp_gt F hd (eTg_if_icmp ht) hc kk
    | le =>
      split at hs
      · rename_i hc
        obtain rfl := eGo_inj hs
        exact eg_icmp_le F hd (eTg_if_icmp ht) hc kk
      · rename_i hc
        obtain rfl := eGo_inj hs
        exact eg_icmp_le F hd (eTg_if_icmp ht) hc kk
  · cases hs
theorem eD_getfield (F : eFr S p l s m args meth c ox M D cA A bv0) (hRf : 8 ≤ R.frames) (hRl : 200 ≤ R.locals) (hN : N0 ≤ N) {x : Nat} (hd : decode M.2.2.1 pc = .ok (.getfield x, eSz pc (.getfield x))) (ht : eTgOk pc tg (.getfield x) = true) (hs : eDo ox M (.getfield x) tg pc lv st N h k z = some (.inl c')) (hk : c'.2.2.2.2.2.1 ≤ R.cells) (hz : c'.2.2.2.2.2.2 ≤ R.slots) (kk : eKW p l e R s m args below meth c Q M D cA A bv0 N0 ad0 c') : eKW p l e R s m args below meth c Q M D cA A bv0 N0 ad0 (pc, lv, st, N, h, k, z) := by
  simp only [eDo, eGet] at hs
  split at hs
  · split at hs
    · rename_i ha
      split at hs
      · rename_i cn j hf
        split at hs
        · rename_i q fs hh
          split at hs
          · rename_i hq
            have := Nat.eq_of_beq_eq_true hq
            subst this
            split at hs
            · cases hs
            · rename_i v hv9 hv
              obtain rfl := eGo_inj hs
              exact eg_getfield F hd ha hf hh hv (fun i e => hv9 i e) kk
            · cases hs
          · cases hs
        · cases hs
      · cases hs
    · cases hs
  · cases hs
theorem eD_putfield (F : eFr S p l s m args meth c ox M D cA A bv0) (hRf : 8 ≤ R.frames) (hRl : 200 ≤ R.locals) (hN : N0 ≤ N) {x : Nat} (hd : decode M.2.2.1 pc = .ok (.putfield x, eSz pc (.putfield x))) (ht : eTgOk pc tg (.putfield x) = true) (hs : eDo ox M (.putfield x) tg pc lv st N h k z = some (.inl c')) (hk : c'.2.2.2.2.2.1 ≤ R.cells) (hz : c'.2.2.2.2.2.2 ≤ R.slots) (kk : eKW p l e R s m args below meth c Q M D cA A bv0 N0 ad0 c') : eKW p l e R s m args below meth c Q M D cA A bv0 N0 ad0 (pc, lv, st, N, h, k, z) := by
  simp only [eDo, ePut] at hs
  split at hs
  · split at hs
    · rename_i ha
      split at hs
      · rename_i cn j hf
        split at hs
        · rename_i q fs hh
          split at hs
          · rename_i hq
            simp only [Bool.and_eq_true] at hq
            obtain ⟨⟨⟨h1, h2⟩, h3⟩, h4⟩ := hq
            have := Nat.eq_of_beq_eq_true h1
            subst this
            obtain rfl := eGo_inj hs
            exact eg_putfield F hd ha hf hh h2 h3 h4 kk
          · cases hs
        · cases hs
      · cases hs
    · cases hs
  · cases hs
theorem eD_getstatic (F : eFr S p l s m args meth c ox M D cA A bv0) (hRf : 8 ≤ R.frames) (hRl : 200 ≤ R.locals) (hN : N0 ≤ N) {x : Nat} (hd : decode M.2.2.1 pc = .ok (.getstatic x, eSz pc (.getstatic x))) (ht : eTgOk pc tg (.getstatic x) = true) (hs : eDo ox M (.getstatic x) tg pc lv st N h k z = some (.inl c')) (hk : c'.2.2.2.2.2.1 ≤ R.cells) (hz : c'.2.2.2.2.2.2 ≤ R.slots) (kk : eKW p l e R s m args below meth c Q M D cA A bv0 N0 ad0 c') : eKW p l e R s m args below meth c Q M D cA A bv0 N0 ad0 (pc, lv, st, N, h, k, z) := by
  simp only [eDo] at hs
  split at hs
  · rename_i v hv
    obtain rfl := eGo_inj hs
    exact eg_getstatic F hd hv kk
  · cases hs
theorem eD_ldc_w (F : eFr S p l s m args meth c ox M D cA A bv0) (hRf : 8 ≤ R.frames) (hRl : 200 ≤ R.locals) (hN : N0 ≤ N) {x : Nat} (hd : decode M.2.2.1 pc = .ok (.ldc_w x, eSz pc (.ldc_w x))) (ht : eTgOk pc tg (.ldc_w x) = true) (hs : eDo ox M (.ldc_w x) tg pc lv st N h k z = some (.inl c')) (hk : c'.2.2.2.2.2.1 ≤ R.cells) (hz : c'.2.2.2.2.2.2 ≤ R.slots) (kk : eKW p l e R s m args below meth c Q M D cA A bv0 N0 ad0 c') : eKW p l e R s m args below meth c Q M D cA A bv0 N0 ad0 (pc, lv, st, N, h, k, z) := by
  simp only [eDo] at hs
  split at hs
  · rename_i v hv
    obtain rfl := eGo_inj hs
    exact eg_ldcw F hd hv kk
  · cases hs
theorem eD_ldc (F : eFr S p l s m args meth c ox M D cA A bv0) (hRf : 8 ≤ R.frames) (hRl : 200 ≤ R.locals) (hN : N0 ≤ N) {x : Nat} (hd : decode M.2.2.1 pc = .ok (.ldc x, eSz pc (.ldc x))) (ht : eTgOk pc tg (.ldc x) = true) (hs : eDo ox M (.ldc x) tg pc lv st N h k z = some (.inl c')) (hk : c'.2.2.2.2.2.1 ≤ R.cells) (hz : c'.2.2.2.2.2.2 ≤ R.slots) (kk : eKW p l e R s m args below meth c Q M D cA A bv0 N0 ad0 c') : eKW p l e R s m args below meth c Q M D cA A bv0 N0 ad0 (pc, lv, st, N, h, k, z) := by
  simp only [eDo] at hs
  split at hs
  · rename_i v hv
    obtain rfl := eGo_inj hs
    exact eg_ldc F hd hv kk
  · cases hs
theorem eD_ldc2_w (F : eFr S p l s m args meth c ox M D cA A bv0) (hRf : 8 ≤ R.frames) (hRl : 200 ≤ R.locals) (hN : N0 ≤ N) {x : Nat} (hd : decode M.2.2.1 pc = .ok (.ldc2_w x, eSz pc (.ldc2_w x))) (ht : eTgOk pc tg (.ldc2_w x) = true) (hs : eDo ox M (.ldc2_w x) tg pc lv st N h k z = some (.inl c')) (hk : c'.2.2.2.2.2.1 ≤ R.cells) (hz : c'.2.2.2.2.2.2 ≤ R.slots) (kk : eKW p l e R s m args below meth c Q M D cA A bv0 N0 ad0 c') : eKW p l e R s m args below meth c Q M D cA A bv0 N0 ad0 (pc, lv, st, N, h, k, z) := by
  simp only [eDo] at hs
  split at hs
  · rename_i v hv
    obtain rfl := eGo_inj hs
    exact eg_ldc2 F hd hv kk
  · cases hs
theorem eD_iaload (F : eFr S p l s m args meth c ox M D cA A bv0) (hRf : 8 ≤ R.frames) (hRl : 200 ≤ R.locals) (hN : N0 ≤ N) (hd : decode M.2.2.1 pc = .ok (.iaload, eSz pc (.iaload))) (ht : eTgOk pc tg (.iaload) = true) (hs : eDo ox M (.iaload) tg pc lv st N h k z = some (.inl c')) (hk : c'.2.2.2.2.2.1 ≤ R.cells) (hz : c'.2.2.2.2.2.2 ≤ R.slots) (kk : eKW p l e R s m args below meth c Q M D cA A bv0 N0 ad0 c') : eKW p l e R s m args below meth c Q M D cA A bv0 N0 ad0 (pc, lv, st, N, h, k, z) := by
  simp only [eDo, eAl] at hs
  split at hs
  · split at hs
    · rename_i ha
      split at hs
      · rename_i q n f hh
        split at hs
        · rename_i hq
          split at hs
          · rename_i hi
            obtain rfl := eGo_inj hs
            have := Nat.eq_of_beq_eq_true hq
            subst this
            exact eg_iald F hd ha hh hi kk
          · cases hs
        · cases hs
      · cases hs
    · cases hs
  · split at hs
    · rename_i q n f hj
      split at hs
      · rename_i hq
        split at hs
        · rename_i hi
          obtain rfl := eGo_inj hs
          obtain ⟨-, -, -, -, hq3⟩ := F.2.2.2.2.2.2.2.2.2.2.2.1 _ _ _ _ hj
          have := Nat.eq_of_beq_eq_true hq
          subst this
          exact eg_tI F hd hj hi kk
        · cases hs
      · cases hs
    · cases hs
  · cases hs
theorem eD_baload (F : eFr S p l s m args meth c ox M D cA A bv0) (hRf : 8 ≤ R.frames) (hRl : 200 ≤ R.locals) (hN : N0 ≤ N) (hd : decode M.2.2.1 pc = .ok (.baload, eSz pc (.baload))) (ht : eTgOk pc tg (.baload) = true) (hs : eDo ox M (.baload) tg pc lv st N h k z = some (.inl c')) (hk : c'.2.2.2.2.2.1 ≤ R.cells) (hz : c'.2.2.2.2.2.2 ≤ R.slots) (kk : eKW p l e R s m args below meth c Q M D cA A bv0 N0 ad0 c') : eKW p l e R s m args below meth c Q M D cA A bv0 N0 ad0 (pc, lv, st, N, h, k, z) := by
  simp only [eDo, eAl] at hs
  split at hs
  · split at hs
    · rename_i ha
      split at hs
      · rename_i q n f hh
        split at hs
        · rename_i hq
          split at hs
          · rename_i hi
            obtain rfl := eGo_inj hs
            simp only [Bool.or_eq_true] at hq
            rcases hq with hq | hq
            · have := Nat.eq_of_beq_eq_true hq
              subst this
              exact eg_zald F hd ha hh hi kk
            · have := Nat.eq_of_beq_eq_true hq
              subst this
              exact eg_bald F hd ha hh hi kk
          · cases hs
        · cases hs
      · cases hs
    · cases hs
  · split at hs
    · rename_i q n f hj
      split at hs
      · rename_i hq
        split at hs
        · rename_i hi
          obtain rfl := eGo_inj hs
          obtain ⟨-, -, -, -, hq3⟩ := F.2.2.2.2.2.2.2.2.2.2.2.1 _ _ _ _ hj
          rcases hq3 with rfl | rfl
          · exact absurd hq (by decide)
          · exact eg_tB F hd hj hi kk
        · cases hs
      · cases hs
    · cases hs
  · cases hs
theorem eD_caload (F : eFr S p l s m args meth c ox M D cA A bv0) (hRf : 8 ≤ R.frames) (hRl : 200 ≤ R.locals) (hN : N0 ≤ N) (hd : decode M.2.2.1 pc = .ok (.caload, eSz pc (.caload))) (ht : eTgOk pc tg (.caload) = true) (hs : eDo ox M (.caload) tg pc lv st N h k z = some (.inl c')) (hk : c'.2.2.2.2.2.1 ≤ R.cells) (hz : c'.2.2.2.2.2.2 ≤ R.slots) (kk : eKW p l e R s m args below meth c Q M D cA A bv0 N0 ad0 c') : eKW p l e R s m args below meth c Q M D cA A bv0 N0 ad0 (pc, lv, st, N, h, k, z) := by
  simp only [eDo, eAl] at hs
  split at hs
  · split at hs
    · rename_i ha
      split at hs
      · rename_i q n f hh
        split at hs
        · rename_i hq
          split at hs
          · rename_i hi
            obtain rfl := eGo_inj hs
            have := Nat.eq_of_beq_eq_true hq
            subst this
            exact eg_cald F hd ha hh hi kk
          · cases hs
        · cases hs
      · cases hs
    · cases hs
  · split at hs
    · rename_i q n f hj
      split at hs
      · rename_i hq
        split at hs
        · rename_i hi
          obtain rfl := eGo_inj hs
          obtain ⟨-, -, -, -, hq3⟩ := F.2.2.2.2.2.2.2.2.2.2.2.1 _ _ _ _ hj
          rcases hq3 with rfl | rfl <;> exact absurd hq (by decide)
        · cases hs
      · cases hs
    · cases hs
  · cases hs
theorem eD_laload (F : eFr S p l s m args meth c ox M D cA A bv0) (hRf : 8 ≤ R.frames) (hRl : 200 ≤ R.locals) (hN : N0 ≤ N) (hd : decode M.2.2.1 pc = .ok (.laload, eSz pc (.laload))) (ht : eTgOk pc tg (.laload) = true) (hs : eDo ox M (.laload) tg pc lv st N h k z = some (.inl c')) (hk : c'.2.2.2.2.2.1 ≤ R.cells) (hz : c'.2.2.2.2.2.2 ≤ R.slots) (kk : eKW p l e R s m args below meth c Q M D cA A bv0 N0 ad0 c') : eKW p l e R s m args below meth c Q M D cA A bv0 N0 ad0 (pc, lv, st, N, h, k, z) := by
  simp only [eDo, eAlL] at hs
  split at hs
  · split at hs
    · rename_i ha
      split at hs
      · rename_i n f hh
        split at hs
        · rename_i hi
          obtain rfl := eGo_inj hs
          exact eg_lald F hd ha hh hi kk
        · cases hs
      · cases hs
    · cases hs
  · cases hs
theorem eD_daload (F : eFr S p l s m args meth c ox M D cA A bv0) (hRf : 8 ≤ R.frames) (hRl : 200 ≤ R.locals) (hN : N0 ≤ N) (hd : decode M.2.2.1 pc = .ok (.daload, eSz pc (.daload))) (ht : eTgOk pc tg (.daload) = true) (hs : eDo ox M (.daload) tg pc lv st N h k z = some (.inl c')) (hk : c'.2.2.2.2.2.1 ≤ R.cells) (hz : c'.2.2.2.2.2.2 ≤ R.slots) (kk : eKW p l e R s m args below meth c Q M D cA A bv0 N0 ad0 c') : eKW p l e R s m args below meth c Q M D cA A bv0 N0 ad0 (pc, lv, st, N, h, k, z) := by
  simp only [eDo, eAlD] at hs
  split at hs
  · split at hs
    · rename_i ha
      split at hs
      · rename_i n f hh
        split at hs
        · rename_i hi
          obtain rfl := eGo_inj hs
          exact eg_dald F hd ha hh hi kk
        · cases hs
      · cases hs
    · cases hs
  · cases hs
theorem eD_aaload (F : eFr S p l s m args meth c ox M D cA A bv0) (hRf : 8 ≤ R.frames) (hRl : 200 ≤ R.locals) (hN : N0 ≤ N) (hd : decode M.2.2.1 pc = .ok (.aaload, eSz pc (.aaload))) (ht : eTgOk pc tg (.aaload) = true) (hs : eDo ox M (.aaload) tg pc lv st N h k z = some (.inl c')) (hk : c'.2.2.2.2.2.1 ≤ R.cells) (hz : c'.2.2.2.2.2.2 ≤ R.slots) (kk : eKW p l e R s m args below meth c Q M D cA A bv0 N0 ad0 c') : eKW p l e R s m args below meth c Q M D cA A bv0 N0 ad0 (pc, lv, st, N, h, k, z) := by
  simp only [eDo, eAlA] at hs
  split at hs
  · split at hs
    · rename_i ha
      split at hs
      · rename_i n f hh
        split at hs
        · rename_i hi
          split at hs
          · rename_i b hf
            obtain rfl := eGo_inj hs
            exact eg_aald F hd ha hh hi hf kk
          · cases hs
        · cases hs
      · cases hs
    · cases hs
  · cases hs
theorem eD_iastore (F : eFr S p l s m args meth c ox M D cA A bv0) (hRf : 8 ≤ R.frames) (hRl : 200 ≤ R.locals) (hN : N0 ≤ N) (hd : decode M.2.2.1 pc = .ok (.iastore, eSz pc (.iastore))) (ht : eTgOk pc tg (.iastore) = true) (hs : eDo ox M (.iastore) tg pc lv st N h k z = some (.inl c')) (hk : c'.2.2.2.2.2.1 ≤ R.cells) (hz : c'.2.2.2.2.2.2 ≤ R.slots) (kk : eKW p l e R s m args below meth c Q M D cA A bv0 N0 ad0 c') : eKW p l e R s m args below meth c Q M D cA A bv0 N0 ad0 (pc, lv, st, N, h, k, z) := by
  simp only [eDo, eAs] at hs
  split at hs
  · split at hs
    · rename_i ha
      split at hs
      · rename_i q n f hh
        split at hs
        · rename_i ty hty
          split at hty
          · cases hty
            split at hs
            · rename_i hi
              obtain rfl := eGo_inj hs
              exact eg_iast F hd ha hh hi kk
            · cases hs
          · cases hty
        · cases hs
      · cases hs
    · cases hs
  · cases hs
theorem eD_bastore (F : eFr S p l s m args meth c ox M D cA A bv0) (hRf : 8 ≤ R.frames) (hRl : 200 ≤ R.locals) (hN : N0 ≤ N) (hd : decode M.2.2.1 pc = .ok (.bastore, eSz pc (.bastore))) (ht : eTgOk pc tg (.bastore) = true) (hs : eDo ox M (.bastore) tg pc lv st N h k z = some (.inl c')) (hk : c'.2.2.2.2.2.1 ≤ R.cells) (hz : c'.2.2.2.2.2.2 ≤ R.slots) (kk : eKW p l e R s m args below meth c Q M D cA A bv0 N0 ad0 c') : eKW p l e R s m args below meth c Q M D cA A bv0 N0 ad0 (pc, lv, st, N, h, k, z) := by
  simp only [eDo, eAs] at hs
  split at hs
  · split at hs
    · rename_i ha
      split at hs
      · rename_i q n f hh
        split at hs
        · rename_i ty hty
          split at hty
          · cases hty
            split at hs
            · rename_i hi
              obtain rfl := eGo_inj hs
              exact eg_zast F hd ha hh hi kk
            · cases hs
          · cases hty
            split at hs
            · rename_i hi
              obtain rfl := eGo_inj hs
              exact eg_bast F hd ha hh hi kk
            · cases hs
          · cases hty
        · cases hs
      · cases hs
    · cases hs
  · cases hs
theorem eD_castore (F : eFr S p l s m args meth c ox M D cA A bv0) (hRf : 8 ≤ R.frames) (hRl : 200 ≤ R.locals) (hN : N0 ≤ N) (hd : decode M.2.2.1 pc = .ok (.castore, eSz pc (.castore))) (ht : eTgOk pc tg (.castore) = true) (hs : eDo ox M (.castore) tg pc lv st N h k z = some (.inl c')) (hk : c'.2.2.2.2.2.1 ≤ R.cells) (hz : c'.2.2.2.2.2.2 ≤ R.slots) (kk : eKW p l e R s m args below meth c Q M D cA A bv0 N0 ad0 c') : eKW p l e R s m args below meth c Q M D cA A bv0 N0 ad0 (pc, lv, st, N, h, k, z) := by
  simp only [eDo, eAs] at hs
  split at hs
  · split at hs
    · rename_i ha
      split at hs
      · rename_i q n f hh
        split at hs
        · rename_i ty hty
          split at hty
          · cases hty
            split at hs
            · rename_i hi
              obtain rfl := eGo_inj hs
              exact eg_cast F hd ha hh hi kk
            · cases hs
          · cases hty
        · cases hs
      · cases hs
    · cases hs
  · cases hs
theorem eD_lastore (F : eFr S p l s m args meth c ox M D cA A bv0) (hRf : 8 ≤ R.frames) (hRl : 200 ≤ R.locals) (hN : N0 ≤ N) (hd : decode M.2.2.1 pc = .ok (.lastore, eSz pc (.lastore))) (ht : eTgOk pc tg (.lastore) = true) (hs : eDo ox M (.lastore) tg pc lv st N h k z = some (.inl c')) (hk : c'.2.2.2.2.2.1 ≤ R.cells) (hz : c'.2.2.2.2.2.2 ≤ R.slots) (kk : eKW p l e R s m args below meth c Q M D cA A bv0 N0 ad0 c') : eKW p l e R s m args below meth c Q M D cA A bv0 N0 ad0 (pc, lv, st, N, h, k, z) := by
  simp only [eDo, eAsL] at hs
  split at hs
  · split at hs
    · rename_i ha
      split at hs
      · rename_i n f hh
        split at hs
        · rename_i hi
          obtain rfl := eGo_inj hs
          exact eg_last F hd ha hh hi kk
        · cases hs
      · cases hs
    · cases hs
  · cases hs
theorem eD_dastore (F : eFr S p l s m args meth c ox M D cA A bv0) (hRf : 8 ≤ R.frames) (hRl : 200 ≤ R.locals) (hN : N0 ≤ N) (hd : decode M.2.2.1 pc = .ok (.dastore, eSz pc (.dastore))) (ht : eTgOk pc tg (.dastore) = true) (hs : eDo ox M (.dastore) tg pc lv st N h k z = some (.inl c')) (hk : c'.2.2.2.2.2.1 ≤ R.cells) (hz : c'.2.2.2.2.2.2 ≤ R.slots) (kk : eKW p l e R s m args below meth c Q M D cA A bv0 N0 ad0 c') : eKW p l e R s m args below meth c Q M D cA A bv0 N0 ad0 (pc, lv, st, N, h, k, z) := by
  simp only [eDo, eAsD] at hs
  split at hs
  · split at hs
    · rename_i ha
      split at hs
      · rename_i n f hh
        split at hs
        · rename_i hi
          obtain rfl := eGo_inj hs
          exact eg_dast F hd ha hh hi kk
        · cases hs
      · cases hs
    · cases hs
  · cases hs
theorem eD_aastore (F : eFr S p l s m args meth c ox M D cA A bv0) (hRf : 8 ≤ R.frames) (hRl : 200 ≤ R.locals) (hN : N0 ≤ N) (hd : decode M.2.2.1 pc = .ok (.aastore, eSz pc (.aastore))) (ht : eTgOk pc tg (.aastore) = true) (hs : eDo ox M (.aastore) tg pc lv st N h k z = some (.inl c')) (hk : c'.2.2.2.2.2.1 ≤ R.cells) (hz : c'.2.2.2.2.2.2 ≤ R.slots) (kk : eKW p l e R s m args below meth c Q M D cA A bv0 N0 ad0 c') : eKW p l e R s m args below meth c Q M D cA A bv0 N0 ad0 (pc, lv, st, N, h, k, z) := by
  simp only [eDo, eAsA] at hs
  split at hs
  · split at hs
    · rename_i ha
      split at hs
      · rename_i hb
        split at hs
        · rename_i vs hv
          split at hs
          · rename_i n f hh
            split at hs
            · rename_i hi
              obtain rfl := eGo_inj hs
              exact eg_aast F hd ha hb hv hh hi kk
            · cases hs
          · cases hs
        · cases hs
      · cases hs
    · cases hs
  · cases hs
theorem eD_arraylength (F : eFr S p l s m args meth c ox M D cA A bv0) (hRf : 8 ≤ R.frames) (hRl : 200 ≤ R.locals) (hN : N0 ≤ N) (hd : decode M.2.2.1 pc = .ok (.arraylength, eSz pc (.arraylength))) (ht : eTgOk pc tg (.arraylength) = true) (hs : eDo ox M (.arraylength) tg pc lv st N h k z = some (.inl c')) (hk : c'.2.2.2.2.2.1 ≤ R.cells) (hz : c'.2.2.2.2.2.2 ≤ R.slots) (kk : eKW p l e R s m args below meth c Q M D cA A bv0 N0 ad0 c') : eKW p l e R s m args below meth c Q M D cA A bv0 N0 ad0 (pc, lv, st, N, h, k, z) := by
  simp only [eDo, eLen] at hs
  split at hs
  · split at hs
    · rename_i ha
      split at hs
      · rename_i q n f hh
        split at hs
        · rename_i hq
          obtain rfl := eGo_inj hs
          exact eg_alen F hd ha hh hq kk
        · cases hs
      · cases hs
    · cases hs
  · split at hs
    · rename_i hj
      obtain rfl := eGo_inj hs
      exact eg_tlen F hd hj kk
    · cases hs
  · cases hs
theorem eD_new (F : eFr S p l s m args meth c ox M D cA A bv0) (hRf : 8 ≤ R.frames) (hRl : 200 ≤ R.locals) (hN : N0 ≤ N) {x : Nat} (hd : decode M.2.2.1 pc = .ok (.new x, eSz pc (.new x))) (ht : eTgOk pc tg (.new x) = true) (hs : eDo ox M (.new x) tg pc lv st N h k z = some (.inl c')) (hk : c'.2.2.2.2.2.1 ≤ R.cells) (hz : c'.2.2.2.2.2.2 ≤ R.slots) (kk : eKW p l e R s m args below meth c Q M D cA A bv0 N0 ad0 c') : eKW p l e R s m args below meth c Q M D cA A bv0 N0 ad0 (pc, lv, st, N, h, k, z) := by
  simp only [eDo] at hs
  split at hs
  · rename_i cn hx
    unfold eMk at hs
    split at hs
    · rename_i hcl
      obtain rfl := eGo_inj hs
      exact eg_new F hd hx hcl hN hk hz kk
    · cases hs
  · split at hs
    · split at hs
      · cases hs
      · cases hs
    · cases hs
theorem eD_newarray (F : eFr S p l s m args meth c ox M D cA A bv0) (hRf : 8 ≤ R.frames) (hRl : 200 ≤ R.locals) (hN : N0 ≤ N) {t : ClassFile.ArrayType} (hd : decode M.2.2.1 pc = .ok (.newarray t, eSz pc (.newarray t))) (ht : eTgOk pc tg (.newarray t) = true) (hs : eDo ox M (.newarray t) tg pc lv st N h k z = some (.inl c')) (hk : c'.2.2.2.2.2.1 ≤ R.cells) (hz : c'.2.2.2.2.2.2 ≤ R.slots) (kk : eKW p l e R s m args below meth c Q M D cA A bv0 N0 ad0 c') : eKW p l e R s m args below meth c Q M D cA A bv0 N0 ad0 (pc, lv, st, N, h, k, z) := by
  cases t with
  | int =>
    simp only [eDo, eNwa] at hs
    split at hs
    · split at hs
      · rename_i hn
        simp only [Bool.and_eq_true, Bool.not_eq_true', decide_eq_false_iff_not] at hn
        unfold eMk at hs
        split at hs
        · rename_i hcl
          obtain rfl := eGo_inj hs
          exact eg_newa_int F hd hn.1 hn.2 hcl hN hk hz kk
        · cases hs
      · cases hs
    · cases hs
  | char =>
    simp only [eDo, eNwa] at hs
    split at hs
    · split at hs
      · rename_i hn
        simp only [Bool.and_eq_true, Bool.not_eq_true', decide_eq_false_iff_not] at hn
        unfold eMk at hs
        split at hs
        · rename_i hcl
          obtain rfl := eGo_inj hs
          exact eg_newa_char F hd hn.1 hn.2 hcl hN hk hz kk
        · cases hs
      · cases hs
    · cases hs
  | boolean =>
    simp only [eDo, eNwa] at hs
    split at hs
    · split at hs
      · rename_i hn
        simp only [Bool.and_eq_true, Bool.not_eq_true', decide_eq_false_iff_not] at hn
        unfold eMk at hs
        split at hs
        · rename_i hcl
          obtain rfl := eGo_inj hs
          exact eg_newa_boolean F hd hn.1 hn.2 hcl hN hk hz kk
        · cases hs
      · cases hs
    · cases hs
  | byte =>
    simp only [eDo, eNwa] at hs
    split at hs
    · split at hs
      · rename_i hn
        simp only [Bool.and_eq_true, Bool.not_eq_true', decide_eq_false_iff_not] at hn
        unfold eMk at hs
        split at hs
        · rename_i hcl
          obtain rfl := eGo_inj hs
          exact eg_newa_byte F hd hn.1 hn.2 hcl hN hk hz kk
        · cases hs
      · cases hs
    · cases hs
  | long =>
    simp only [eDo, eNwa] at hs
    split at hs
    · split at hs
      · rename_i hn
        simp only [Bool.and_eq_true, Bool.not_eq_true', decide_eq_false_iff_not] at hn
        unfold eMk at hs
        split at hs
        · rename_i hcl
          obtain rfl := eGo_inj hs
          exact eg_newa_long F hd hn.1 hn.2 hcl hN hk hz kk
        · cases hs
      · cases hs
    · cases hs
  | double =>
    simp only [eDo, eNwa] at hs
    split at hs
    · split at hs
      · rename_i hn
        simp only [Bool.and_eq_true, Bool.not_eq_true', decide_eq_false_iff_not] at hn
        unfold eMk at hs
        split at hs
        · rename_i hcl
          obtain rfl := eGo_inj hs
          exact eg_newa_double F hd hn.1 hn.2 hcl hN hk hz kk
        · cases hs
      · cases hs
    · cases hs
  | float => simp [eDo] at hs
  | short => simp [eDo] at hs
theorem eD_anewarray (F : eFr S p l s m args meth c ox M D cA A bv0) (hRf : 8 ≤ R.frames) (hRl : 200 ≤ R.locals) (hN : N0 ≤ N) {x : Nat} (hd : decode M.2.2.1 pc = .ok (.anewarray x, eSz pc (.anewarray x))) (ht : eTgOk pc tg (.anewarray x) = true) (hs : eDo ox M (.anewarray x) tg pc lv st N h k z = some (.inl c')) (hk : c'.2.2.2.2.2.1 ≤ R.cells) (hz : c'.2.2.2.2.2.2 ≤ R.slots) (kk : eKW p l e R s m args below meth c Q M D cA A bv0 N0 ad0 c') : eKW p l e R s m args below meth c Q M D cA A bv0 N0 ad0 (pc, lv, st, N, h, k, z) := by
  simp only [eDo] at hs
  split at hs
  · rename_i C hx
    unfold eNwa at hs
    split at hs
    · split at hs
      · rename_i hn
        simp only [Bool.and_eq_true, Bool.not_eq_true', decide_eq_false_iff_not] at hn
        unfold eMk at hs
        split at hs
        · rename_i hcl
          obtain rfl := eGo_inj hs
          exact eg_newq F hd hx hn.1 hn.2 hcl hN hk hz kk
        · cases hs
      · cases hs
    · cases hs
  · cases hs
theorem eD_tableswitch (F : eFr S p l s m args meth c ox M D cA A bv0) (hRf : 8 ≤ R.frames) (hRl : 200 ≤ R.locals) (hN : N0 ≤ N) {d lo hi : Int} {offs : Array Int} (hd : decode M.2.2.1 pc = .ok (.tableswitch d lo hi offs, eSz pc (.tableswitch d lo hi offs))) (ht : eTgOk pc tg (.tableswitch d lo hi offs) = true) (hs : eDo ox M (.tableswitch d lo hi offs) tg pc lv st N h k z = some (.inl c')) (hk : c'.2.2.2.2.2.1 ≤ R.cells) (hz : c'.2.2.2.2.2.2 ≤ R.slots) (kk : eKW p l e R s m args below meth c Q M D cA A bv0 N0 ad0 c') : eKW p l e R s m args below meth c Q M D cA A bv0 N0 ad0 (pc, lv, st, N, h, k, z) := by
  have hsz : offs.size = (hi - lo + 1).toNat := of_decide_eq_true ht
  simp only [eDo] at hs
  split at hs
  · split at hs
    · rename_i t hq
      obtain rfl := eGo_inj hs
      exact eg_tsw F hd hsz hq kk
    · cases hs
  · cases hs
theorem eD_lookupswitch (F : eFr S p l s m args meth c ox M D cA A bv0) (hRf : 8 ≤ R.frames) (hRl : 200 ≤ R.locals) (hN : N0 ≤ N) {d : Int} {ps : Array (Int × Int)} (hd : decode M.2.2.1 pc = .ok (.lookupswitch d ps, eSz pc (.lookupswitch d ps))) (ht : eTgOk pc tg (.lookupswitch d ps) = true) (hs : eDo ox M (.lookupswitch d ps) tg pc lv st N h k z = some (.inl c')) (hk : c'.2.2.2.2.2.1 ≤ R.cells) (hz : c'.2.2.2.2.2.2 ≤ R.slots) (kk : eKW p l e R s m args below meth c Q M D cA A bv0 N0 ad0 c') : eKW p l e R s m args below meth c Q M D cA A bv0 N0 ad0 (pc, lv, st, N, h, k, z) := by
  simp only [eDo] at hs
  split at hs
  · split at hs
    · rename_i t hq
      obtain rfl := eGo_inj hs
      exact eg_lsw F hd ht hq kk
    · cases hs
  · cases hs
theorem eD_invokevirtual (F : eFr S p l s m args meth c ox M D cA A bv0) (hRf : 8 ≤ R.frames) (hRl : 200 ≤ R.locals) (hN : N0 ≤ N) {x : Nat} (hd : decode M.2.2.1 pc = .ok (.invokevirtual x, eSz pc (.invokevirtual x))) (ht : eTgOk pc tg (.invokevirtual x) = true) (hs : eDo ox M (.invokevirtual x) tg pc lv st N h k z = some (.inl c')) (hk : c'.2.2.2.2.2.1 ≤ R.cells) (hz : c'.2.2.2.2.2.2 ≤ R.slots) (kk : eKW p l e R s m args below meth c Q M D cA A bv0 N0 ad0 c') : eKW p l e R s m args below meth c Q M D cA A bv0 N0 ad0 (pc, lv, st, N, h, k, z) := by
  cases hv : eMth M.1 x with
  | none => simp [eDo, eInv, hv] at hs
  | some v =>
    obtain ⟨kd, cc, na, M'⟩ := v
    simp only [eDo, eInv, hv] at hs
    split at hs <;> first | contradiction | (split at hs <;> cases hs) | cases hs
theorem eD_invokestatic (F : eFr S p l s m args meth c ox M D cA A bv0) (hRf : 8 ≤ R.frames) (hRl : 200 ≤ R.locals) (hN : N0 ≤ N) {x : Nat} (hd : decode M.2.2.1 pc = .ok (.invokestatic x, eSz pc (.invokestatic x))) (ht : eTgOk pc tg (.invokestatic x) = true) (hs : eDo ox M (.invokestatic x) tg pc lv st N h k z = some (.inl c')) (hk : c'.2.2.2.2.2.1 ≤ R.cells) (hz : c'.2.2.2.2.2.2 ≤ R.slots) (kk : eKW p l e R s m args below meth c Q M D cA A bv0 N0 ad0 c') : eKW p l e R s m args below meth c Q M D cA A bv0 N0 ad0 (pc, lv, st, N, h, k, z) := by
  cases hv : eMth M.1 x with
  | none => simp [eDo, eInv, hv] at hs
  | some v =>
    obtain ⟨kd, cc, na, M'⟩ := v
    simp only [eDo, eInv, hv] at hs
    by_cases h8 : kd = 8
    · subst h8
      simp only at hs
      unfold eCopy at hs
      split at hs
      · split at hs
        · rename_i hab
          simp only [Bool.and_eq_true] at hab
          split at hs
          · rename_i q1 n1 g hha
            split at hs
            · rename_i q0 n0 f hhb
              split at hs
              · rename_i hc
                simp only [Bool.and_eq_true, Bool.not_eq_true', decide_eq_false_iff_not] at hc
                obtain ⟨⟨⟨⟨⟨⟨h1, h2⟩, h3⟩, h4⟩, h5⟩, h6⟩, h7⟩ := hc
                have := Nat.eq_of_beq_eq_true h1
                subst this
                obtain rfl := eGo_inj hs
                exact eg_copy F (by omega) (by omega) hd hv hab.2 hab.1.1 hab.1.2 hha hhb h2 h3 h4 h5 h6 h7 kk
              · cases hs
            · cases hs
          · cases hs
        · cases hs
      · cases hs
    · by_cases h9 : kd = 9
      · subst h9
        simp only at hs
        split at hs
        · split at hs
          · rename_i hr
            obtain rfl := eGo_inj hs
            exact eg_max F (by omega) (by omega) hk hz hd hv hr kk
          · cases hs
        · cases hs
      · by_cases h10 : kd = 10
        · subst h10
          simp only at hs
          split at hs
          · split at hs
            · rename_i hr
              obtain rfl := eGo_inj hs
              exact eg_min F (by omega) (by omega) hk hz hd hv hr kk
            · cases hs
          · cases hs
        · split at hs <;> first | contradiction | (split at hs <;> cases hs) | cases hs
theorem eD_invokespecial (F : eFr S p l s m args meth c ox M D cA A bv0) (hRf : 8 ≤ R.frames) (hRl : 200 ≤ R.locals) (hN : N0 ≤ N) {x : Nat} (hd : decode M.2.2.1 pc = .ok (.invokespecial x, eSz pc (.invokespecial x))) (ht : eTgOk pc tg (.invokespecial x) = true) (hs : eDo ox M (.invokespecial x) tg pc lv st N h k z = some (.inl c')) (hk : c'.2.2.2.2.2.1 ≤ R.cells) (hz : c'.2.2.2.2.2.2 ≤ R.slots) (kk : eKW p l e R s m args below meth c Q M D cA A bv0 N0 ad0 c') : eKW p l e R s m args below meth c Q M D cA A bv0 N0 ad0 (pc, lv, st, N, h, k, z) := by
  cases hv : eMth M.1 x with
  | none => simp [eDo, eInv, hv] at hs
  | some v =>
    obtain ⟨kd, cc, na, M'⟩ := v
    simp only [eDo, eInv, hv] at hs
    by_cases h7 : kd = 7
    · subst h7
      simp only at hs
      split at hs
      · split at hs
        · rename_i hr
          obtain rfl := eGo_inj hs
          exact eg_objInit F (by omega) (by omega) hd hv hr kk
        · cases hs
      · cases hs
    · split at hs <;> first | contradiction | (split at hs <;> cases hs) | cases hs
end ED
