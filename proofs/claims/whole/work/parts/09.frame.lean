/-! what holds in a frame of the machine, and the goal at a stand -/
/-- two private methods of AbstractStringBuilder, called on a StringBuilder -/
def eExtra : List Cond := [.selects "java/lang/StringBuilder" yJ5_ensureCapacityInternal_d00df yJ5_ensureCapacityInternal_d00df, .selects "java/lang/StringBuilder" yJ5_newCapacity_0f7a4 yJ5_newCapacity_0f7a4]
def lw_all : List Cond := lw_tbl ++ eExtra
def lw_good : List Cond := lw_all.filter goodWord
theorem lw_goodIn : GoodIn lw_good lw_good := fun w h => ⟨h, good_of_word (List.mem_filter.mp h).2⟩
theorem lw_gm {w : Cond} (i : Nat) (h : lw_all[i]? = some w) (g : goodWord w = true) : w ∈ lw_good := List.mem_filter.mpr ⟨List.mem_of_getElem? h, g⟩
/-- links of nest mates: (owner, index, the callee's name, host) -/
def eNests : List (String × Nat × MethodName × String) := [("MonkMarbles", 9, yX0_init, "MonkMarbles"), ("MonkMarbles$History", 15, yX0_init, "MonkMarbles"), ("MonkMarbles", 31, yX5_init, "MonkMarbles"), ("MonkMarbles", 38, yX4_init, "MonkMarbles"), ("MonkMarbles", 45, yX2_init, "MonkMarbles"), ("MonkMarbles", 52, yX3_init, "MonkMarbles"), ("MonkMarbles$Values", 72, yX6_isNumber, "MonkMarbles")]
/-- the classes of exceptions -/
def eExs : List String := ["java/lang/ArithmeticException", "java/lang/IllegalArgumentException", "java/lang/IllegalStateException", "java/lang/IndexOutOfBoundsException", "java/lang/UnsupportedOperationException", "java/util/NoSuchElementException"]
/-- facts of the tables that no good word tells -/
def eWd (S : List (String × Nat × String)) (U : State) : Prop := (∀ q ∈ eNests, va_Nw (.methodLinkNest q.1 q.2.1 q.2.2.1 q.2.2.2) U) ∧ (∀ q ∈ S, ∃ a, vk_R q.1 q.2.1 q.2.2 a U) ∧ (∀ E ∈ eExs, ∀ X ∈ eExs, E ≠ X → va_Nc E X U) ∧ va_AO "MonkMarbles$Garden" U
/-- the statics, null or not, that lie outside of A -/
def eFx (A : Nat → Prop) (bv : Nat → Value) (U : State) (H : Heap) : Prop :=
  vx_Zq Bundle.tN "UNASSIGNED_STACK" Bundle.steD A U H ∧ vx_Zq Bundle.tN "SUPPRESSED_SENTINEL" Bundle.listD A U H ∧
  va_Z "java/lang/String" "COMPACT_STRINGS" "Z" (.int 1) A U H ∧ va_Z "java/lang/Integer" "DigitOnes" "[B" (bv 1) A U H ∧ va_Z "java/lang/Integer" "DigitTens" "[B" (bv 2) A U H ∧
  va_Z "jdk/internal/util/Preconditions" "SIOOBE_FORMATTER" "Ljava/util/function/BiFunction;" (bv 3) A U H
/-- the rows outside of A -/
def eOut (ox : Nat → Option (Nat × Nat × (Nat → Int32))) (A : Nat → Prop) (bv : Nat → Value) (U : State) (H : Heap) : Prop :=
  ∀ j q n f, ox j = some (q, n, f) → j ≠ 9 ∧ ∃ t, bv j = .ref t ∧ va_T (eRow q) t n (fun i => .int (f i)) A U H ∧ (q = 0 ∨ q = 3)
/-- the code of a method is its bytes -/
def eSz (pc : Nat) : Instr → Nat
  | .dload _ | .fload _ | .dstore _ | .fstore _ | .iload _ | .lload _ | .aload _ | .istore _ | .lstore _ | .astore _ | .bipush _ | .newarray _ | .ldc _ => 2
  | .iload_n _ | .lload_n _ | .aload_n _ | .istore_n _ | .lstore_n _ | .astore_n _ | .iconst _ | .lconst _ => 1
  | .sipush _ | .getfield _ | .putfield _ | .getstatic _ | .invokevirtual _ | .invokestatic _ | .invokespecial _ | .ifCond _ _ | .if_icmp _ _ | .ifnull _ | .ifnonnull _ | .if_acmp _ _ | .goto _ | .iinc _ _ | .ldc2_w _ | .ldc_w _ | .new _ | .anewarray _ | .checkcast _ => 3
  | .tableswitch _ lo hi _ => 1 + (3 - pc % 4) + 12 + 4 * (hi - lo + 1).toNat
  | .lookupswitch _ ps => 1 + (3 - pc % 4) + 8 + 8 * ps.size
  | _ => 1
def eTgOk (pc tg : Nat) : Instr → Bool
  | .ifCond _ o => decide ((pc : Int) + o = (tg : Int))
  | .if_icmp _ o => decide ((pc : Int) + o = (tg : Int))
  | .goto o => decide ((pc : Int) + o = (tg : Int))
  | .lookupswitch _ ps => (ps.toList.zip (ps.toList.drop 1)).all (fun (a, next) => decide (a.1 < next.1))
  | .tableswitch _ lo hi offs => decide (offs.size = (hi - lo + 1).toNat)
  | _ => true
def eRows (M : eM) : Prop := ∀ q ∈ M.2.2.2.2.2.2, decode M.2.2.1 q.1 = .ok (q.2.1, eSz q.1 q.2.1) ∧ eTgOk q.1 q.2.2 q.2.1 = true
/-- a frame of M -/
def eFr (S : List (String × Nat × String)) (p : Program) (l : Launch) (s : State) (m : MethodId) (args : Array Value) (meth : Method) (c : Code) (ox : Nat → Option (Nat × Nat × (Nat → Int32))) (M : eM) (D : va_G) (cA : Nat → ClassId) (A : Nat → Prop) (bv : Nat → Value) : Prop :=
  p.tables.exec = Jvm.exec ∧ c.code = M.2.2.1 ∧ c.maxLocals = M.2.2.2.1 ∧ s.vm.findClass (eOwn M.1) = some m.cls ∧ (∀ w ∈ lw_good, w.before args s = true) ∧
  va_K D vwCl (eTys cA) s ∧ (∀ q : Nat, s.heap.size ≤ q → A q) ∧ meth.locks = false ∧ l.stackTraces = false ∧ (M.2.1.name = "<init>" → meth.name = "<init>") ∧
  eFx A bv s s.heap ∧ eOut ox A bv s s.heap ∧ eWd S s ∧ eBv bv ∧ eRows M
/-- the goal at a stand: from every heap that holds the world; the names below N0 are where they were -/
def eKW (p : Program) (l : Launch) (e : Env) (R : Room) (s : State) (m : MethodId) (args : Array Value) (below : List Frame) (meth : Method) (c : Code) (Q : State → Prop) (M : eM) (D : va_G) (cA : Nat → ClassId) (A : Nat → Prop) (bv0 : Nat → Value) (N0 : Nat) (ad0 : Nat → Nat) (cf : eC) : Prop :=
  ∀ (ad : Nat → Nat) (bv : Nat → Value) (H : Heap) (locs : List Loc) (ls : Array Slot), (∀ j, j ≠ 9 → bv j = bv0 j) → eBv bv → (∀ i, i < N0 → ad i = ad0 i) → (cf.2.2.2.1 = N0 → ad = ad0) → va_P D vwCl (eW ad bv0 cA cf.2.2.2.1 cf.2.2.2.2.1) H → va_D A (eW ad bv0 cA cf.2.2.2.1 cf.2.2.2.2.1) → va_S A s.heap H locs → lv_has ls M.2.2.2.1 (eL ad bv cf.2.1) →
    W p l e R s m args below meth c H locs cf.2.2.2.2.2.1 cf.2.2.2.2.2.2 Q (F0 m cf.1 ls (cf.2.2.1.map (eV ad bv)))
section EG
variable {S : List (String × Nat × String)} {p : Program} {l : Launch} {e : Env} {R : Room} {s : State} {m : MethodId} {args : Array Value} {below : List Frame} {meth : Method} {c : Code} {Q : State → Prop} {ox : Nat → Option (Nat × Nat × (Nat → Int32))} {M : eM} {D : va_G} {cA : Nat → ClassId} {A : Nat → Prop} {bv0 : Nat → Value} {N0 : Nat} {ad0 : Nat → Nat}
variable {pc : Nat} {lv : eLv} {r : List Value} {N : Nat} {h : eHp} {k z : Nat}
theorem eg_iconst (F : eFr S p l s m args meth c ox M D cA A bv0) {n : Int} (hd : decode M.2.2.1 pc = .ok (.iconst n, 1)) (kk : eKW p l e R s m args below meth c Q M D cA A bv0 N0 ad0 (pc + 1, lv, .int (Int32.ofInt n) :: r, N, h, k, z)) : eKW p l e R s m args below meth c Q M D cA A bv0 N0 ad0 (pc, lv, r, N, h, k, z) := by
  intro ad bv H locs ls hb hbv hag hag2 hP hD hS hl
  exact lv_iconst F.1 F.2.1 hd rfl (kk ad bv H locs ls hb hbv hag hag2 hP hD hS hl)
theorem eg_bipush (F : eFr S p l s m args meth c ox M D cA A bv0) {n : Int} (hd : decode M.2.2.1 pc = .ok (.bipush n, 2)) (kk : eKW p l e R s m args below meth c Q M D cA A bv0 N0 ad0 (pc + 2, lv, .int (Int8.ofInt n).toInt32 :: r, N, h, k, z)) : eKW p l e R s m args below meth c Q M D cA A bv0 N0 ad0 (pc, lv, r, N, h, k, z) := by
  intro ad bv H locs ls hb hbv hag hag2 hP hD hS hl
  exact lv_bipush F.1 F.2.1 hd rfl (kk ad bv H locs ls hb hbv hag hag2 hP hD hS hl)
theorem eg_sipush (F : eFr S p l s m args meth c ox M D cA A bv0) {n : Int} (hd : decode M.2.2.1 pc = .ok (.sipush n, 3)) (kk : eKW p l e R s m args below meth c Q M D cA A bv0 N0 ad0 (pc + 3, lv, .int (Int16.ofInt n).toInt32 :: r, N, h, k, z)) : eKW p l e R s m args below meth c Q M D cA A bv0 N0 ad0 (pc, lv, r, N, h, k, z) := by
  intro ad bv H locs ls hb hbv hag hag2 hP hD hS hl
  exact lv_sipush F.1 F.2.1 hd rfl (kk ad bv H locs ls hb hbv hag hag2 hP hD hS hl)
theorem eg_lconst (F : eFr S p l s m args meth c ox M D cA A bv0) {n : Fin 2} (hd : decode M.2.2.1 pc = .ok (.lconst n, 1)) (kk : eKW p l e R s m args below meth c Q M D cA A bv0 N0 ad0 (pc + 1, lv, .long (Int64.ofNat n.val) :: r, N, h, k, z)) : eKW p l e R s m args below meth c Q M D cA A bv0 N0 ad0 (pc, lv, r, N, h, k, z) := by
  intro ad bv H locs ls hb hbv hag hag2 hP hD hS hl
  exact lv_lconst F.1 F.2.1 hd rfl (kk ad bv H locs ls hb hbv hag hag2 hP hD hS hl)
theorem eg_iadd (F : eFr S p l s m args meth c ox M D cA A bv0) {x y : Int32} (hd : decode M.2.2.1 pc = .ok (.iadd, 1)) (kk : eKW p l e R s m args below meth c Q M D cA A bv0 N0 ad0 (pc + 1, lv, .int (x + y) :: r, N, h, k, z)) : eKW p l e R s m args below meth c Q M D cA A bv0 N0 ad0 (pc, lv, .int y :: .int x :: r, N, h, k, z) := by
  intro ad bv H locs ls hb hbv hag hag2 hP hD hS hl
  exact lv_iadd F.1 F.2.1 hd (kk ad bv H locs ls hb hbv hag hag2 hP hD hS hl)
theorem eg_isub (F : eFr S p l s m args meth c ox M D cA A bv0) {x y : Int32} (hd : decode M.2.2.1 pc = .ok (.isub, 1)) (kk : eKW p l e R s m args below meth c Q M D cA A bv0 N0 ad0 (pc + 1, lv, .int (x - y) :: r, N, h, k, z)) : eKW p l e R s m args below meth c Q M D cA A bv0 N0 ad0 (pc, lv, .int y :: .int x :: r, N, h, k, z) := by
  intro ad bv H locs ls hb hbv hag hag2 hP hD hS hl
  exact lv_isub F.1 F.2.1 hd (kk ad bv H locs ls hb hbv hag hag2 hP hD hS hl)
theorem eg_imul (F : eFr S p l s m args meth c ox M D cA A bv0) {x y : Int32} (hd : decode M.2.2.1 pc = .ok (.imul, 1)) (kk : eKW p l e R s m args below meth c Q M D cA A bv0 N0 ad0 (pc + 1, lv, .int (x * y) :: r, N, h, k, z)) : eKW p l e R s m args below meth c Q M D cA A bv0 N0 ad0 (pc, lv, .int y :: .int x :: r, N, h, k, z) := by
  intro ad bv H locs ls hb hbv hag hag2 hP hD hS hl
  exact lv_imul F.1 F.2.1 hd (kk ad bv H locs ls hb hbv hag hag2 hP hD hS hl)
theorem eg_iand (F : eFr S p l s m args meth c ox M D cA A bv0) {x y : Int32} (hd : decode M.2.2.1 pc = .ok (.iand, 1)) (kk : eKW p l e R s m args below meth c Q M D cA A bv0 N0 ad0 (pc + 1, lv, .int (x &&& y) :: r, N, h, k, z)) : eKW p l e R s m args below meth c Q M D cA A bv0 N0 ad0 (pc, lv, .int y :: .int x :: r, N, h, k, z) := by
  intro ad bv H locs ls hb hbv hag hag2 hP hD hS hl
  exact lv_iand F.1 F.2.1 hd (kk ad bv H locs ls hb hbv hag hag2 hP hD hS hl)
theorem eg_ior (F : eFr S p l s m args meth c ox M D cA A bv0) {x y : Int32} (hd : decode M.2.2.1 pc = .ok (.ior, 1)) (kk : eKW p l e R s m args below meth c Q M D cA A bv0 N0 ad0 (pc + 1, lv, .int (x ||| y) :: r, N, h, k, z)) : eKW p l e R s m args below meth c Q M D cA A bv0 N0 ad0 (pc, lv, .int y :: .int x :: r, N, h, k, z) := by
  intro ad bv H locs ls hb hbv hag hag2 hP hD hS hl
  exact lv_ior F.1 F.2.1 hd (kk ad bv H locs ls hb hbv hag hag2 hP hD hS hl)
theorem eg_ixor (F : eFr S p l s m args meth c ox M D cA A bv0) {x y : Int32} (hd : decode M.2.2.1 pc = .ok (.ixor, 1)) (kk : eKW p l e R s m args below meth c Q M D cA A bv0 N0 ad0 (pc + 1, lv, .int (x ^^^ y) :: r, N, h, k, z)) : eKW p l e R s m args below meth c Q M D cA A bv0 N0 ad0 (pc, lv, .int y :: .int x :: r, N, h, k, z) := by
  intro ad bv H locs ls hb hbv hag hag2 hP hD hS hl
  exact lv_ixor F.1 F.2.1 hd (kk ad bv H locs ls hb hbv hag hag2 hP hD hS hl)
theorem eg_ishl (F : eFr S p l s m args meth c ox M D cA A bv0) {x y : Int32} (hd : decode M.2.2.1 pc = .ok (.ishl, 1)) (kk : eKW p l e R s m args below meth c Q M D cA A bv0 N0 ad0 (pc + 1, lv, .int (x <<< (y &&& 31)) :: r, N, h, k, z)) : eKW p l e R s m args below meth c Q M D cA A bv0 N0 ad0 (pc, lv, .int y :: .int x :: r, N, h, k, z) := by
  intro ad bv H locs ls hb hbv hag hag2 hP hD hS hl
  exact lv_ishl F.1 F.2.1 hd (kk ad bv H locs ls hb hbv hag hag2 hP hD hS hl)
theorem eg_ishr (F : eFr S p l s m args meth c ox M D cA A bv0) {x y : Int32} (hd : decode M.2.2.1 pc = .ok (.ishr, 1)) (kk : eKW p l e R s m args below meth c Q M D cA A bv0 N0 ad0 (pc + 1, lv, .int (x >>> (y &&& 31)) :: r, N, h, k, z)) : eKW p l e R s m args below meth c Q M D cA A bv0 N0 ad0 (pc, lv, .int y :: .int x :: r, N, h, k, z) := by
  intro ad bv H locs ls hb hbv hag hag2 hP hD hS hl
  exact lv_ishr F.1 F.2.1 hd (kk ad bv H locs ls hb hbv hag hag2 hP hD hS hl)
theorem eg_iushr (F : eFr S p l s m args meth c ox M D cA A bv0) {x y : Int32} (hd : decode M.2.2.1 pc = .ok (.iushr, 1)) (kk : eKW p l e R s m args below meth c Q M D cA A bv0 N0 ad0 (pc + 1, lv, .int (x.toUInt32 >>> (y.toUInt32 &&& Int32.toUInt32 31)).toInt32 :: r, N, h, k, z)) : eKW p l e R s m args below meth c Q M D cA A bv0 N0 ad0 (pc, lv, .int y :: .int x :: r, N, h, k, z) := by
  intro ad bv H locs ls hb hbv hag hag2 hP hD hS hl
  exact lv_iushr F.1 F.2.1 hd rfl (kk ad bv H locs ls hb hbv hag hag2 hP hD hS hl)
theorem eg_idiv (F : eFr S p l s m args meth c ox M D cA A bv0) {x y : Int32} (hd : decode M.2.2.1 pc = .ok (.idiv, 1)) (hy : ¬ y = 0) (kk : eKW p l e R s m args below meth c Q M D cA A bv0 N0 ad0 (pc + 1, lv, .int (x / y) :: r, N, h, k, z)) : eKW p l e R s m args below meth c Q M D cA A bv0 N0 ad0 (pc, lv, .int y :: .int x :: r, N, h, k, z) := by
  intro ad bv H locs ls hb hbv hag hag2 hP hD hS hl
  exact lv_idiv F.1 F.2.1 hd hy (kk ad bv H locs ls hb hbv hag hag2 hP hD hS hl)
theorem eg_irem (F : eFr S p l s m args meth c ox M D cA A bv0) {x y : Int32} (hd : decode M.2.2.1 pc = .ok (.irem, 1)) (hy : ¬ y = 0) (kk : eKW p l e R s m args below meth c Q M D cA A bv0 N0 ad0 (pc + 1, lv, .int (x - x / y * y) :: r, N, h, k, z)) : eKW p l e R s m args below meth c Q M D cA A bv0 N0 ad0 (pc, lv, .int y :: .int x :: r, N, h, k, z) := by
  intro ad bv H locs ls hb hbv hag hag2 hP hD hS hl
  exact lv_irem F.1 F.2.1 hd hy (kk ad bv H locs ls hb hbv hag hag2 hP hD hS hl)
theorem eg_ineg (F : eFr S p l s m args meth c ox M D cA A bv0) {x : Int32} (hd : decode M.2.2.1 pc = .ok (.ineg, 1)) (kk : eKW p l e R s m args below meth c Q M D cA A bv0 N0 ad0 (pc + 1, lv, .int (-x) :: r, N, h, k, z)) : eKW p l e R s m args below meth c Q M D cA A bv0 N0 ad0 (pc, lv, .int x :: r, N, h, k, z) := by
  intro ad bv H locs ls hb hbv hag hag2 hP hD hS hl
  exact lv_ineg F.1 F.2.1 hd (kk ad bv H locs ls hb hbv hag hag2 hP hD hS hl)
theorem eg_ladd (F : eFr S p l s m args meth c ox M D cA A bv0) {x y : Int64} (hd : decode M.2.2.1 pc = .ok (.ladd, 1)) (kk : eKW p l e R s m args below meth c Q M D cA A bv0 N0 ad0 (pc + 1, lv, .long (x + y) :: r, N, h, k, z)) : eKW p l e R s m args below meth c Q M D cA A bv0 N0 ad0 (pc, lv, .long y :: .long x :: r, N, h, k, z) := by
  intro ad bv H locs ls hb hbv hag hag2 hP hD hS hl
  exact lv_ladd F.1 F.2.1 hd (kk ad bv H locs ls hb hbv hag hag2 hP hD hS hl)
theorem eg_lsub (F : eFr S p l s m args meth c ox M D cA A bv0) {x y : Int64} (hd : decode M.2.2.1 pc = .ok (.lsub, 1)) (kk : eKW p l e R s m args below meth c Q M D cA A bv0 N0 ad0 (pc + 1, lv, .long (x - y) :: r, N, h, k, z)) : eKW p l e R s m args below meth c Q M D cA A bv0 N0 ad0 (pc, lv, .long y :: .long x :: r, N, h, k, z) := by
  intro ad bv H locs ls hb hbv hag hag2 hP hD hS hl
  exact lv_lsub F.1 F.2.1 hd (kk ad bv H locs ls hb hbv hag hag2 hP hD hS hl)
theorem eg_lmul (F : eFr S p l s m args meth c ox M D cA A bv0) {x y : Int64} (hd : decode M.2.2.1 pc = .ok (.lmul, 1)) (kk : eKW p l e R s m args below meth c Q M D cA A bv0 N0 ad0 (pc + 1, lv, .long (x * y) :: r, N, h, k, z)) : eKW p l e R s m args below meth c Q M D cA A bv0 N0 ad0 (pc, lv, .long y :: .long x :: r, N, h, k, z) := by
  intro ad bv H locs ls hb hbv hag hag2 hP hD hS hl
  exact lv_lmul F.1 F.2.1 hd (kk ad bv H locs ls hb hbv hag hag2 hP hD hS hl)
theorem eg_land (F : eFr S p l s m args meth c ox M D cA A bv0) {x y : Int64} (hd : decode M.2.2.1 pc = .ok (.land, 1)) (kk : eKW p l e R s m args below meth c Q M D cA A bv0 N0 ad0 (pc + 1, lv, .long (x &&& y) :: r, N, h, k, z)) : eKW p l e R s m args below meth c Q M D cA A bv0 N0 ad0 (pc, lv, .long y :: .long x :: r, N, h, k, z) := by
  intro ad bv H locs ls hb hbv hag hag2 hP hD hS hl
  exact lv_land F.1 F.2.1 hd (kk ad bv H locs ls hb hbv hag hag2 hP hD hS hl)
theorem eg_lshl (F : eFr S p l s m args meth c ox M D cA A bv0) {x : Int64} {y : Int32} (hd : decode M.2.2.1 pc = .ok (.lshl, 1)) (kk : eKW p l e R s m args below meth c Q M D cA A bv0 N0 ad0 (pc + 1, lv, .long (x <<< (y.toInt64 &&& 63)) :: r, N, h, k, z)) : eKW p l e R s m args below meth c Q M D cA A bv0 N0 ad0 (pc, lv, .int y :: .long x :: r, N, h, k, z) := by
  intro ad bv H locs ls hb hbv hag hag2 hP hD hS hl
  exact lv_lshl F.1 F.2.1 hd rfl (kk ad bv H locs ls hb hbv hag hag2 hP hD hS hl)
theorem eg_lcmp (F : eFr S p l s m args meth c ox M D cA A bv0) {x y : Int64} (hd : decode M.2.2.1 pc = .ok (.lcmp, 1)) (kk : eKW p l e R s m args below meth c Q M D cA A bv0 N0 ad0 (pc + 1, lv, .int (lg_cmp x y) :: r, N, h, k, z)) : eKW p l e R s m args below meth c Q M D cA A bv0 N0 ad0 (pc, lv, .long y :: .long x :: r, N, h, k, z) := by
  intro ad bv H locs ls hb hbv hag hag2 hP hD hS hl
  exact W.lcmp F.1 F.2.1 hd (kk ad bv H locs ls hb hbv hag hag2 hP hD hS hl)
theorem eg_i2l (F : eFr S p l s m args meth c ox M D cA A bv0) {x : Int32} (hd : decode M.2.2.1 pc = .ok (.i2l, 1)) (kk : eKW p l e R s m args below meth c Q M D cA A bv0 N0 ad0 (pc + 1, lv, .long x.toInt64 :: r, N, h, k, z)) : eKW p l e R s m args below meth c Q M D cA A bv0 N0 ad0 (pc, lv, .int x :: r, N, h, k, z) := by
  intro ad bv H locs ls hb hbv hag hag2 hP hD hS hl
  exact lv_i2l F.1 F.2.1 hd rfl (kk ad bv H locs ls hb hbv hag hag2 hP hD hS hl)
theorem eg_i2b (F : eFr S p l s m args meth c ox M D cA A bv0) {x : Int32} (hd : decode M.2.2.1 pc = .ok (.i2b, 1)) (kk : eKW p l e R s m args below meth c Q M D cA A bv0 N0 ad0 (pc + 1, lv, .int x.toInt8.toInt32 :: r, N, h, k, z)) : eKW p l e R s m args below meth c Q M D cA A bv0 N0 ad0 (pc, lv, .int x :: r, N, h, k, z) := by
  intro ad bv H locs ls hb hbv hag hag2 hP hD hS hl
  exact lv_i2b F.1 F.2.1 hd rfl (kk ad bv H locs ls hb hbv hag hag2 hP hD hS hl)
theorem eg_i2c (F : eFr S p l s m args meth c ox M D cA A bv0) {x : Int32} (hd : decode M.2.2.1 pc = .ok (.i2c, 1)) (kk : eKW p l e R s m args below meth c Q M D cA A bv0 N0 ad0 (pc + 1, lv, .int (x.toUInt32 % 65536).toInt32 :: r, N, h, k, z)) : eKW p l e R s m args below meth c Q M D cA A bv0 N0 ad0 (pc, lv, .int x :: r, N, h, k, z) := by
  intro ad bv H locs ls hb hbv hag hag2 hP hD hS hl
  exact lv_i2c F.1 F.2.1 hd rfl (kk ad bv H locs ls hb hbv hag hag2 hP hD hS hl)
theorem eg_iload_n (F : eFr S p l s m args meth c ox M D cA A bv0) {x : Int32} {j : Fin 4} (hd : decode M.2.2.1 pc = .ok (.iload_n j, 1)) (hj : eLk j.val lv = some (.int x)) (kk : eKW p l e R s m args below meth c Q M D cA A bv0 N0 ad0 (pc + 1, lv, .int x :: r, N, h, k, z)) : eKW p l e R s m args below meth c Q M D cA A bv0 N0 ad0 (pc, lv, r, N, h, k, z) := by
  intro ad bv H locs ls hb hbv hag hag2 hP hD hS hl
  exact lv_iload_n F.1 F.2.1 hd rfl (eL_lk hl hj) (kk ad bv H locs ls hb hbv hag hag2 hP hD hS hl)
theorem eg_iload (F : eFr S p l s m args meth c ox M D cA A bv0) {x : Int32} {j : Nat} (hd : decode M.2.2.1 pc = .ok (.iload j, 2)) (hj : eLk j lv = some (.int x)) (kk : eKW p l e R s m args below meth c Q M D cA A bv0 N0 ad0 (pc + 2, lv, .int x :: r, N, h, k, z)) : eKW p l e R s m args below meth c Q M D cA A bv0 N0 ad0 (pc, lv, r, N, h, k, z) := by
  intro ad bv H locs ls hb hbv hag hag2 hP hD hS hl
  exact lv_iload F.1 F.2.1 hd (eL_lk hl hj) (kk ad bv H locs ls hb hbv hag hag2 hP hD hS hl)
theorem eg_lload_n (F : eFr S p l s m args meth c ox M D cA A bv0) {x : Int64} {j : Fin 4} (hd : decode M.2.2.1 pc = .ok (.lload_n j, 1)) (hj : eLk j.val lv = some (.long x)) (kk : eKW p l e R s m args below meth c Q M D cA A bv0 N0 ad0 (pc + 1, lv, .long x :: r, N, h, k, z)) : eKW p l e R s m args below meth c Q M D cA A bv0 N0 ad0 (pc, lv, r, N, h, k, z) := by
  intro ad bv H locs ls hb hbv hag hag2 hP hD hS hl
  exact lv_lload_n F.1 F.2.1 hd rfl (eL_lk hl hj) (kk ad bv H locs ls hb hbv hag hag2 hP hD hS hl)
theorem eg_lload (F : eFr S p l s m args meth c ox M D cA A bv0) {x : Int64} {j : Nat} (hd : decode M.2.2.1 pc = .ok (.lload j, 2)) (hj : eLk j lv = some (.long x)) (kk : eKW p l e R s m args below meth c Q M D cA A bv0 N0 ad0 (pc + 2, lv, .long x :: r, N, h, k, z)) : eKW p l e R s m args below meth c Q M D cA A bv0 N0 ad0 (pc, lv, r, N, h, k, z) := by
  intro ad bv H locs ls hb hbv hag hag2 hP hD hS hl
  exact lv_lload F.1 F.2.1 hd (eL_lk hl hj) (kk ad bv H locs ls hb hbv hag hag2 hP hD hS hl)
theorem eg_aload_n (F : eFr S p l s m args meth c ox M D cA A bv0) {x : Nat} {j : Fin 4} (hd : decode M.2.2.1 pc = .ok (.aload_n j, 1)) (hj : eLk j.val lv = some (.ref x)) (kk : eKW p l e R s m args below meth c Q M D cA A bv0 N0 ad0 (pc + 1, lv, .ref x :: r, N, h, k, z)) : eKW p l e R s m args below meth c Q M D cA A bv0 N0 ad0 (pc, lv, r, N, h, k, z) := by
  intro ad bv H locs ls hb hbv hag hag2 hP hD hS hl
  exact lv_aload_n F.1 F.2.1 hd rfl (eL_lk hl hj) (kk ad bv H locs ls hb hbv hag hag2 hP hD hS hl)
theorem eg_aload_nX (F : eFr S p l s m args meth c ox M D cA A bv0) {x : Nat} {j : Fin 4} (hd : decode M.2.2.1 pc = .ok (.aload_n j, 1)) (hj : eLk j.val lv = some (.retAddr x)) (kk : eKW p l e R s m args below meth c Q M D cA A bv0 N0 ad0 (pc + 1, lv, .retAddr x :: r, N, h, k, z)) : eKW p l e R s m args below meth c Q M D cA A bv0 N0 ad0 (pc, lv, r, N, h, k, z) := by
  intro ad bv H locs ls hb hbv hag hag2 hP hD hS hl
  have h1 := eL_lk hl hj
  have h2 := (kk ad bv H locs ls hb hbv hag hag2 hP hD hS hl)
  rcases hbv x with hx | ⟨a, hx⟩
  · refine lv_aload_nN F.1 F.2.1 hd rfl (h1.trans (by show _ = some (Slot.val Value.null); rw [← hx]; rfl)) ?_
    have e1 : (Value.retAddr x :: r).map (eV ad bv) = .null :: r.map (eV ad bv) := by rw [← hx]; rfl
    rw [← e1]; exact h2
  · refine lv_aload_n F.1 F.2.1 hd rfl (h1.trans (by show _ = some (Slot.val (Value.ref a)); rw [← hx]; rfl)) ?_
    have e1 : (Value.retAddr x :: r).map (eV ad bv) = .ref a :: r.map (eV ad bv) := by rw [← hx]; rfl
    rw [← e1]; exact h2
theorem eg_aload (F : eFr S p l s m args meth c ox M D cA A bv0) {x : Nat} {j : Nat} (hd : decode M.2.2.1 pc = .ok (.aload j, 2)) (hj : eLk j lv = some (.ref x)) (kk : eKW p l e R s m args below meth c Q M D cA A bv0 N0 ad0 (pc + 2, lv, .ref x :: r, N, h, k, z)) : eKW p l e R s m args below meth c Q M D cA A bv0 N0 ad0 (pc, lv, r, N, h, k, z) := by
  intro ad bv H locs ls hb hbv hag hag2 hP hD hS hl
  exact lv_aload F.1 F.2.1 hd (eL_lk hl hj) (kk ad bv H locs ls hb hbv hag hag2 hP hD hS hl)
theorem eg_aloadX (F : eFr S p l s m args meth c ox M D cA A bv0) {x : Nat} {j : Nat} (hd : decode M.2.2.1 pc = .ok (.aload j, 2)) (hj : eLk j lv = some (.retAddr x)) (kk : eKW p l e R s m args below meth c Q M D cA A bv0 N0 ad0 (pc + 2, lv, .retAddr x :: r, N, h, k, z)) : eKW p l e R s m args below meth c Q M D cA A bv0 N0 ad0 (pc, lv, r, N, h, k, z) := by
  intro ad bv H locs ls hb hbv hag hag2 hP hD hS hl
  have h1 := eL_lk hl hj
  have h2 := (kk ad bv H locs ls hb hbv hag hag2 hP hD hS hl)
  rcases hbv x with hx | ⟨a, hx⟩
  · refine lv_aloadN F.1 F.2.1 hd (h1.trans (by show _ = some (Slot.val Value.null); rw [← hx]; rfl)) ?_
    have e1 : (Value.retAddr x :: r).map (eV ad bv) = .null :: r.map (eV ad bv) := by rw [← hx]; rfl
    rw [← e1]; exact h2
  · refine lv_aload F.1 F.2.1 hd (h1.trans (by show _ = some (Slot.val (Value.ref a)); rw [← hx]; rfl)) ?_
    have e1 : (Value.retAddr x :: r).map (eV ad bv) = .ref a :: r.map (eV ad bv) := by rw [← hx]; rfl
    rw [← e1]; exact h2
theorem eg_istore_n (F : eFr S p l s m args meth c ox M D cA A bv0) {x : Int32} {j : Fin 4} (hd : decode M.2.2.1 pc = .ok (.istore_n j, 1)) (hj : Nat.ble (j.val + 1) M.2.2.2.1 = true) (kk : eKW p l e R s m args below meth c Q M D cA A bv0 N0 ad0 (pc + 1, eP1 j.val (.int x) lv, r, N, h, k, z)) : eKW p l e R s m args below meth c Q M D cA A bv0 N0 ad0 (pc, lv, .int x :: r, N, h, k, z) := by
  intro ad bv H locs ls hb hbv hag hag2 hP hD hS hl
  exact lv_istore_n F.1 F.2.1 hd rfl hl (Nat.le_of_ble_eq_true hj) (eL_P1 hbv _ (.int x) lv) (fun ls' hl' => kk ad bv H locs ls' hb hbv hag hag2 hP hD hS hl')
theorem eg_istore (F : eFr S p l s m args meth c ox M D cA A bv0) {x : Int32} {j : Nat} (hd : decode M.2.2.1 pc = .ok (.istore j, 2)) (hj : Nat.ble (j + 1) M.2.2.2.1 = true) (kk : eKW p l e R s m args below meth c Q M D cA A bv0 N0 ad0 (pc + 2, eP1 j (.int x) lv, r, N, h, k, z)) : eKW p l e R s m args below meth c Q M D cA A bv0 N0 ad0 (pc, lv, .int x :: r, N, h, k, z) := by
  intro ad bv H locs ls hb hbv hag hag2 hP hD hS hl
  exact lv_istore F.1 F.2.1 hd hl (Nat.le_of_ble_eq_true hj) (eL_P1 hbv _ (.int x) lv) (fun ls' hl' => kk ad bv H locs ls' hb hbv hag hag2 hP hD hS hl')
theorem eg_lstore_n (F : eFr S p l s m args meth c ox M D cA A bv0) {x : Int64} {j : Fin 4} (hd : decode M.2.2.1 pc = .ok (.lstore_n j, 1)) (hj : Nat.ble (j.val + 2) M.2.2.2.1 = true) (kk : eKW p l e R s m args below meth c Q M D cA A bv0 N0 ad0 (pc + 1, eP2 j.val (.long x) lv, r, N, h, k, z)) : eKW p l e R s m args below meth c Q M D cA A bv0 N0 ad0 (pc, lv, .long x :: r, N, h, k, z) := by
  intro ad bv H locs ls hb hbv hag hag2 hP hD hS hl
  exact lv_lstore_n F.1 F.2.1 hd rfl hl (Nat.le_of_ble_eq_true hj) (eL_P2 hbv _ (.long x) lv) (fun ls' hl' => kk ad bv H locs ls' hb hbv hag hag2 hP hD hS hl')
theorem eg_lstore (F : eFr S p l s m args meth c ox M D cA A bv0) {x : Int64} {j : Nat} (hd : decode M.2.2.1 pc = .ok (.lstore j, 2)) (hj : Nat.ble (j + 2) M.2.2.2.1 = true) (kk : eKW p l e R s m args below meth c Q M D cA A bv0 N0 ad0 (pc + 2, eP2 j (.long x) lv, r, N, h, k, z)) : eKW p l e R s m args below meth c Q M D cA A bv0 N0 ad0 (pc, lv, .long x :: r, N, h, k, z) := by
  intro ad bv H locs ls hb hbv hag hag2 hP hD hS hl
  exact lv_lstore F.1 F.2.1 hd hl (Nat.le_of_ble_eq_true hj) (eL_P2 hbv _ (.long x) lv) (fun ls' hl' => kk ad bv H locs ls' hb hbv hag hag2 hP hD hS hl')
theorem eg_astore_n (F : eFr S p l s m args meth c ox M D cA A bv0) {x : Nat} {j : Fin 4} (hd : decode M.2.2.1 pc = .ok (.astore_n j, 1)) (hj : Nat.ble (j.val + 1) M.2.2.2.1 = true) (kk : eKW p l e R s m args below meth c Q M D cA A bv0 N0 ad0 (pc + 1, eP1 j.val (.ref x) lv, r, N, h, k, z)) : eKW p l e R s m args below meth c Q M D cA A bv0 N0 ad0 (pc, lv, .ref x :: r, N, h, k, z) := by
  intro ad bv H locs ls hb hbv hag hag2 hP hD hS hl
  exact lv_astore_n F.1 F.2.1 hd rfl hl (Nat.le_of_ble_eq_true hj) (eL_P1 hbv _ (.ref x) lv) (fun ls' hl' => kk ad bv H locs ls' hb hbv hag hag2 hP hD hS hl')
theorem eg_astore (F : eFr S p l s m args meth c ox M D cA A bv0) {x : Nat} {j : Nat} (hd : decode M.2.2.1 pc = .ok (.astore j, 2)) (hj : Nat.ble (j + 1) M.2.2.2.1 = true) (kk : eKW p l e R s m args below meth c Q M D cA A bv0 N0 ad0 (pc + 2, eP1 j (.ref x) lv, r, N, h, k, z)) : eKW p l e R s m args below meth c Q M D cA A bv0 N0 ad0 (pc, lv, .ref x :: r, N, h, k, z) := by
  intro ad bv H locs ls hb hbv hag hag2 hP hD hS hl
  exact lv_astore F.1 F.2.1 hd hl (Nat.le_of_ble_eq_true hj) (eL_P1 hbv _ (.ref x) lv) (fun ls' hl' => kk ad bv H locs ls' hb hbv hag hag2 hP hD hS hl')
theorem eg_astore_nX (F : eFr S p l s m args meth c ox M D cA A bv0) {x : Nat} {j : Fin 4} (hd : decode M.2.2.1 pc = .ok (.astore_n j, 1)) (hj : Nat.ble (j.val + 1) M.2.2.2.1 = true) (kk : eKW p l e R s m args below meth c Q M D cA A bv0 N0 ad0 (pc + 1, eP1 j.val (.retAddr x) lv, r, N, h, k, z)) : eKW p l e R s m args below meth c Q M D cA A bv0 N0 ad0 (pc, lv, .retAddr x :: r, N, h, k, z) := by
  intro ad bv H locs ls hb hbv hag hag2 hP hD hS hl
  have h2 := eL_P1 (ad := ad) hbv j.val (.retAddr x) lv
  rcases hbv x with hx | ⟨a, hx⟩
  · have e1 : (Value.retAddr x :: r).map (eV ad bv) = .null :: r.map (eV ad bv) := by rw [← hx]; rfl
    rw [show eV ad bv (.retAddr x) = .null from hx] at h2
    show W p l e R s m args below meth c H locs k z Q (F0 m pc ls ((Value.retAddr x :: r).map (eV ad bv)))
    rw [e1]
    exact lv_astore_nN F.1 F.2.1 hd rfl hl (Nat.le_of_ble_eq_true hj) h2 (fun ls' hl' => kk ad bv H locs ls' hb hbv hag hag2 hP hD hS hl')
  · have e1 : (Value.retAddr x :: r).map (eV ad bv) = .ref a :: r.map (eV ad bv) := by rw [← hx]; rfl
    rw [show eV ad bv (.retAddr x) = .ref a from hx] at h2
    show W p l e R s m args below meth c H locs k z Q (F0 m pc ls ((Value.retAddr x :: r).map (eV ad bv)))
    rw [e1]
    exact lv_astore_n F.1 F.2.1 hd rfl hl (Nat.le_of_ble_eq_true hj) h2 (fun ls' hl' => kk ad bv H locs ls' hb hbv hag hag2 hP hD hS hl')
theorem eg_astoreX (F : eFr S p l s m args meth c ox M D cA A bv0) {x : Nat} {j : Nat} (hd : decode M.2.2.1 pc = .ok (.astore j, 2)) (hj : Nat.ble (j + 1) M.2.2.2.1 = true) (kk : eKW p l e R s m args below meth c Q M D cA A bv0 N0 ad0 (pc + 2, eP1 j (.retAddr x) lv, r, N, h, k, z)) : eKW p l e R s m args below meth c Q M D cA A bv0 N0 ad0 (pc, lv, .retAddr x :: r, N, h, k, z) := by
  intro ad bv H locs ls hb hbv hag hag2 hP hD hS hl
  have h2 := eL_P1 (ad := ad) hbv j (.retAddr x) lv
  rcases hbv x with hx | ⟨a, hx⟩
  · have e1 : (Value.retAddr x :: r).map (eV ad bv) = .null :: r.map (eV ad bv) := by rw [← hx]; rfl
    rw [show eV ad bv (.retAddr x) = .null from hx] at h2
    show W p l e R s m args below meth c H locs k z Q (F0 m pc ls ((Value.retAddr x :: r).map (eV ad bv)))
    rw [e1]
    exact lv_astoreN F.1 F.2.1 hd hl (Nat.le_of_ble_eq_true hj) h2 (fun ls' hl' => kk ad bv H locs ls' hb hbv hag hag2 hP hD hS hl')
  · have e1 : (Value.retAddr x :: r).map (eV ad bv) = .ref a :: r.map (eV ad bv) := by rw [← hx]; rfl
    rw [show eV ad bv (.retAddr x) = .ref a from hx] at h2
    show W p l e R s m args below meth c H locs k z Q (F0 m pc ls ((Value.retAddr x :: r).map (eV ad bv)))
    rw [e1]
    exact lv_astore F.1 F.2.1 hd hl (Nat.le_of_ble_eq_true hj) h2 (fun ls' hl' => kk ad bv H locs ls' hb hbv hag hag2 hP hD hS hl')
theorem eg_iinc (F : eFr S p l s m args meth c ox M D cA A bv0) {x : Int32} {j : Nat} {n : Int} (hd : decode M.2.2.1 pc = .ok (.iinc j n, 3)) (hj : eLk j lv = some (.int x)) (hn : Nat.ble (j + 1) M.2.2.2.1 = true) (kk : eKW p l e R s m args below meth c Q M D cA A bv0 N0 ad0 (pc + 3, eP1 j (.int (x + Int32.ofInt n)) lv, r, N, h, k, z)) : eKW p l e R s m args below meth c Q M D cA A bv0 N0 ad0 (pc, lv, r, N, h, k, z) := by
  intro ad bv H locs ls hb hbv hag hag2 hP hD hS hl
  have h1 : (j, Value.int x) ∈ eL ad bv lv := List.mem_map.mpr ⟨(j, .int x), eLk_mem hj, rfl⟩
  obtain ⟨q, hq⟩ := List.getElem?_of_mem h1
  exact lv_iinc F.1 F.2.1 hd hl hq rfl (Nat.le_of_ble_eq_true hn) (eL_P1 hbv _ (.int (x + Int32.ofInt n)) lv) (fun ls' hl' => kk ad bv H locs ls' hb hbv hag hag2 hP hD hS hl')
theorem eg_dup (F : eFr S p l s m args meth c ox M D cA A bv0) {v : Value} (hd : decode M.2.2.1 pc = .ok (.dup, 1)) (hv : Nat.beq v.category 1 = true) (kk : eKW p l e R s m args below meth c Q M D cA A bv0 N0 ad0 (pc + 1, lv, v :: v :: r, N, h, k, z)) : eKW p l e R s m args below meth c Q M D cA A bv0 N0 ad0 (pc, lv, v :: r, N, h, k, z) := by
  intro ad bv H locs ls hb hbv hag hag2 hP hD hS hl
  exact lv_dup F.1 F.2.1 hd ((eV_cat hbv v).trans (Nat.eq_of_beq_eq_true hv)) (kk ad bv H locs ls hb hbv hag hag2 hP hD hS hl)
theorem eg_pop (F : eFr S p l s m args meth c ox M D cA A bv0) {v : Value} (hd : decode M.2.2.1 pc = .ok (.pop, 1)) (hv : Nat.beq v.category 1 = true) (kk : eKW p l e R s m args below meth c Q M D cA A bv0 N0 ad0 (pc + 1, lv, r, N, h, k, z)) : eKW p l e R s m args below meth c Q M D cA A bv0 N0 ad0 (pc, lv, v :: r, N, h, k, z) := by
  intro ad bv H locs ls hb hbv hag hag2 hP hD hS hl
  exact lv_pop F.1 F.2.1 hd ((eV_cat hbv v).trans (Nat.eq_of_beq_eq_true hv)) (kk ad bv H locs ls hb hbv hag hag2 hP hD hS hl)
theorem eg_dup_x1 (F : eFr S p l s m args meth c ox M D cA A bv0) {v w : Value} (hd : decode M.2.2.1 pc = .ok (.dup_x1, 1)) (hv : Nat.beq v.category 1 = true) (hw : Nat.beq w.category 1 = true) (kk : eKW p l e R s m args below meth c Q M D cA A bv0 N0 ad0 (pc + 1, lv, v :: w :: v :: r, N, h, k, z)) : eKW p l e R s m args below meth c Q M D cA A bv0 N0 ad0 (pc, lv, v :: w :: r, N, h, k, z) := by
  intro ad bv H locs ls hb hbv hag hag2 hP hD hS hl
  exact lv_dup_x1 F.1 F.2.1 hd ((eV_cat hbv v).trans (Nat.eq_of_beq_eq_true hv)) ((eV_cat hbv w).trans (Nat.eq_of_beq_eq_true hw)) (kk ad bv H locs ls hb hbv hag hag2 hP hD hS hl)
theorem eg_dup2 (F : eFr S p l s m args meth c ox M D cA A bv0) {v w : Value} (hd : decode M.2.2.1 pc = .ok (.dup2, 1)) (hv : Nat.beq v.category 1 = true) (hw : Nat.beq w.category 1 = true) (kk : eKW p l e R s m args below meth c Q M D cA A bv0 N0 ad0 (pc + 1, lv, v :: w :: v :: w :: r, N, h, k, z)) : eKW p l e R s m args below meth c Q M D cA A bv0 N0 ad0 (pc, lv, v :: w :: r, N, h, k, z) := by
  intro ad bv H locs ls hb hbv hag hag2 hP hD hS hl
  exact lv_dup2_11 F.1 F.2.1 hd ((eV_cat hbv v).trans (Nat.eq_of_beq_eq_true hv)) ((eV_cat hbv w).trans (Nat.eq_of_beq_eq_true hw)) (kk ad bv H locs ls hb hbv hag hag2 hP hD hS hl)
theorem eg_goto (F : eFr S p l s m args meth c ox M D cA A bv0) {o : Int} {tg : Nat} (hd : decode M.2.2.1 pc = .ok (.goto o, 3)) (ht : (pc : Int) + o = (tg : Int)) (kk : eKW p l e R s m args below meth c Q M D cA A bv0 N0 ad0 (tg, lv, r, N, h, k, z)) : eKW p l e R s m args below meth c Q M D cA A bv0 N0 ad0 (pc, lv, r, N, h, k, z) := by
  intro ad bv H locs ls hb hbv hag hag2 hP hD hS hl
  exact lv_goto F.1 F.2.1 hd ht (kk ad bv H locs ls hb hbv hag hag2 hP hD hS hl)
theorem eg_ifnull (F : eFr S p l s m args meth c ox M D cA A bv0) {o : Int} {x : Nat} (hd : decode M.2.2.1 pc = .ok (.ifnull o, 3)) (kk : eKW p l e R s m args below meth c Q M D cA A bv0 N0 ad0 (pc + 3, lv, r, N, h, k, z)) : eKW p l e R s m args below meth c Q M D cA A bv0 N0 ad0 (pc, lv, .ref x :: r, N, h, k, z) := by
  intro ad bv H locs ls hb hbv hag hag2 hP hD hS hl
  exact lv_ifnull F.1 F.2.1 hd (kk ad bv H locs ls hb hbv hag hag2 hP hD hS hl)
theorem eg_icmp_eq (F : eFr S p l s m args meth c ox M D cA A bv0) {x y : Int32} {o : Int} {tg : Nat} (hd : decode M.2.2.1 pc = .ok (.if_icmp .eq o, 3)) (ht : (pc : Int) + o = (tg : Int)) {b : Bool} (hb0 : eCmp .eq x y = b) (kk : eKW p l e R s m args below meth c Q M D cA A bv0 N0 ad0 (cond b tg (pc + 3), lv, r, N, h, k, z)) : eKW p l e R s m args below meth c Q M D cA A bv0 N0 ad0 (pc, lv, .int y :: .int x :: r, N, h, k, z) := by
  intro ad bv H locs ls hb hbv hag hag2 hP hD hS hl
  subst hb0
  refine lv_icmp_eq F.1 F.2.1 hd ht (fun hx => ?_) (fun hx => ?_)
  · have e1 : eCmp .eq x y = true := by simp [eCmp, hx]
    rw [e1] at kk
    exact kk ad bv H locs ls hb hbv hag hag2 hP hD hS hl
  · have e1 : eCmp .eq x y = false := by simp [eCmp, hx]
    rw [e1] at kk
    exact kk ad bv H locs ls hb hbv hag hag2 hP hD hS hl
theorem eg_icmp_ne (F : eFr S p l s m args meth c ox M D cA A bv0) {x y : Int32} {o : Int} {tg : Nat} (hd : decode M.2.2.1 pc = .ok (.if_icmp .ne o, 3)) (ht : (pc : Int) + o = (tg : Int)) {b : Bool} (hb0 : eCmp .ne x y = b) (kk : eKW p l e R s m args below meth c Q M D cA A bv0 N0 ad0 (cond b tg (pc + 3), lv, r, N, h, k, z)) : eKW p l e R s m args below meth c Q M D cA A bv0 N0 ad0 (pc, lv, .int y :: .int x :: r, N, h, k, z) := by
  intro ad bv H locs ls hb hbv hag hag2 hP hD hS hl
  subst hb0
  refine lv_icmp_ne F.1 F.2.1 hd ht (fun hx => ?_) (fun hx => ?_)
  · have e1 : eCmp .ne x y = true := by simp [eCmp, hx]
    rw [e1] at kk
    exact kk ad bv H locs ls hb hbv hag hag2 hP hD hS hl
  · have e1 : eCmp .ne x y = false := by simp [eCmp, hx]
    rw [e1] at kk
    exact kk ad bv H locs ls hb hbv hag hag2 hP hD hS hl
theorem eg_icmp_lt (F : eFr S p l s m args meth c ox M D cA A bv0) {x y : Int32} {o : Int} {tg : Nat} (hd : decode M.2.2.1 pc = .ok (.if_icmp .lt o, 3)) (ht : (pc : Int) + o = (tg : Int)) {b : Bool} (hb0 : eCmp .lt x y = b) (kk : eKW p l e R s m args below meth c Q M D cA A bv0 N0 ad0 (cond b tg (pc + 3), lv, r, N, h, k, z)) : eKW p l e R s m args below meth c Q M D cA A bv0 N0 ad0 (pc, lv, .int y :: .int x :: r, N, h, k, z) := by
  intro ad bv H locs ls hb hbv hag hag2 hP hD hS hl
  subst hb0
  refine lv_icmp_lt F.1 F.2.1 hd ht (fun hx => ?_) (fun hx => ?_)
  · have e1 : eCmp .lt x y = true := by simp [eCmp, hx]
    rw [e1] at kk
    exact kk ad bv H locs ls hb hbv hag hag2 hP hD hS hl
  · have e1 : eCmp .lt x y = false := by simp [eCmp, hx]
    rw [e1] at kk
    exact kk ad bv H locs ls hb hbv hag hag2 hP hD hS hl
theorem eg_icmp_ge (F : eFr S p l s m args meth c ox M D cA A bv0) {x y : Int32} {o : Int} {tg : Nat} (hd : decode M.2.2.1 pc = .ok (.if_icmp .ge o, 3)) (ht : (pc : Int) + o = (tg : Int)) {b : Bool} (hb0 : eCmp .ge x y = b) (kk : eKW p l e R s m args below meth c Q M D cA A bv0 N0 ad0 (cond b tg (pc + 3), lv, r, N, h, k, z)) : eKW p l e R s m args below meth c Q M D cA A bv0 N0 ad0 (pc, lv, .int y :: .int x :: r, N, h, k, z) := by
  intro ad bv H locs ls hb hbv hag hag2 hP hD hS hl
  subst hb0
  refine lv_icmp_ge F.1 F.2.1 hd ht (fun hx => ?_) (fun hx => ?_)
  · have e1 : eCmp .ge x y = true := by simp [eCmp, hx]
    rw [e1] at kk
    exact kk ad bv H locs ls hb hbv hag hag2 hP hD hS hl
  · have e1 : eCmp .ge x y = false := by simp [eCmp, hx]
    rw [e1] at kk
    exact kk ad bv H locs ls hb hbv hag hag2 hP hD hS hl
theorem eg_icmp_gt (F : eFr S p l s m args meth c ox M D cA A bv0) {x y : Int32} {o : Int} {tg : Nat} (hd : decode M.2.2.1 pc = .ok (.if_icmp .gt o, 3)) (ht : (pc : Int) + o = (tg : Int)) {b : Bool} (hb0 : eCmp .gt x y = b) (kk : eKW p l e R s m args below meth c Q M D cA A bv0 N0 ad0 (cond b tg (pc + 3), lv, r, N, h, k, z)) : eKW p l e R s m args below meth c Q M D cA A bv0 N0 ad0 (pc, lv, .int y :: .int x :: r, N, h, k, z) := by
  intro ad bv H locs ls hb hbv hag hag2 hP hD hS hl
  subst hb0
  refine lv_icmp_gt F.1 F.2.1 hd ht (fun hx => ?_) (fun hx => ?_)
  · have e1 : eCmp .gt x y = true := by simp [eCmp, hx]
    rw [e1] at kk
    exact kk ad bv H locs ls hb hbv hag hag2 hP hD hS hl
  · have e1 : eCmp .gt x y = false := by simp [eCmp, hx]
    rw [e1] at kk
    exact kk ad bv H locs ls hb hbv hag hag2 hP hD hS hl
theorem eg_icmp_le (F : eFr S p l s m args meth c ox M D cA A bv0) {x y : Int32} {o : Int} {tg : Nat} (hd : decode M.2.2.1 pc = .ok (.if_icmp .le o, 3)) (ht : (pc : Int) + o = (tg : Int)) {b : Bool} (hb0 : eCmp .le x y = b) (kk : eKW p l e R s m args below meth c Q M D cA A bv0 N0 ad0 (cond b tg (pc + 3), lv, r, N, h, k, z)) : eKW p l e R s m args below meth c Q M D cA A bv0 N0 ad0 (pc, lv, .int y :: .int x :: r, N, h, k, z) := by
  intro ad bv H locs ls hb hbv hag hag2 hP hD hS hl
  subst hb0
  refine lv_icmp_le F.1 F.2.1 hd ht (fun hx => ?_) (fun hx => ?_)
  · have e1 : eCmp .le x y = true := by simp [eCmp, hx]
    rw [e1] at kk
    exact kk ad bv H locs ls hb hbv hag hag2 hP hD hS hl
  · have e1 : eCmp .le x y = false := by simp [eCmp, hx]
    rw [e1] at kk
    exact kk ad bv H locs ls hb hbv hag hag2 hP hD hS hl
theorem eg_if_eq (F : eFr S p l s m args meth c ox M D cA A bv0) {x : Int32} {o : Int} {tg : Nat} (hd : decode M.2.2.1 pc = .ok (.ifCond .eq o, 3)) (ht : (pc : Int) + o = (tg : Int)) {b : Bool} (hb0 : eCmp .eq x 0 = b) (kk : eKW p l e R s m args below meth c Q M D cA A bv0 N0 ad0 (cond b tg (pc + 3), lv, r, N, h, k, z)) : eKW p l e R s m args below meth c Q M D cA A bv0 N0 ad0 (pc, lv, .int x :: r, N, h, k, z) := by
  intro ad bv H locs ls hb hbv hag hag2 hP hD hS hl
  subst hb0
  refine lv_if_eq F.1 F.2.1 hd ht (fun hx => ?_) (fun hx => ?_)
  · have e1 : eCmp .eq x 0 = true := by simp [eCmp, hx]
    rw [e1] at kk
    exact kk ad bv H locs ls hb hbv hag hag2 hP hD hS hl
  · have e1 : eCmp .eq x 0 = false := by simp [eCmp, hx]
    rw [e1] at kk
    exact kk ad bv H locs ls hb hbv hag hag2 hP hD hS hl
theorem eg_if_ne (F : eFr S p l s m args meth c ox M D cA A bv0) {x : Int32} {o : Int} {tg : Nat} (hd : decode M.2.2.1 pc = .ok (.ifCond .ne o, 3)) (ht : (pc : Int) + o = (tg : Int)) {b : Bool} (hb0 : eCmp .ne x 0 = b) (kk : eKW p l e R s m args below meth c Q M D cA A bv0 N0 ad0 (cond b tg (pc + 3), lv, r, N, h, k, z)) : eKW p l e R s m args below meth c Q M D cA A bv0 N0 ad0 (pc, lv, .int x :: r, N, h, k, z) := by
  intro ad bv H locs ls hb hbv hag hag2 hP hD hS hl
  subst hb0
  refine lv_if_ne F.1 F.2.1 hd ht (fun hx => ?_) (fun hx => ?_)
  · have e1 : eCmp .ne x 0 = true := by simp [eCmp, hx]
    rw [e1] at kk
    exact kk ad bv H locs ls hb hbv hag hag2 hP hD hS hl
  · have e1 : eCmp .ne x 0 = false := by simp [eCmp, hx]
    rw [e1] at kk
    exact kk ad bv H locs ls hb hbv hag hag2 hP hD hS hl
theorem eg_if_lt (F : eFr S p l s m args meth c ox M D cA A bv0) {x : Int32} {o : Int} {tg : Nat} (hd : decode M.2.2.1 pc = .ok (.ifCond .lt o, 3)) (ht : (pc : Int) + o = (tg : Int)) {b : Bool} (hb0 : eCmp .lt x 0 = b) (kk : eKW p l e R s m args below meth c Q M D cA A bv0 N0 ad0 (cond b tg (pc + 3), lv, r, N, h, k, z)) : eKW p l e R s m args below meth c Q M D cA A bv0 N0 ad0 (pc, lv, .int x :: r, N, h, k, z) := by
  intro ad bv H locs ls hb hbv hag hag2 hP hD hS hl
  subst hb0
  refine lv_if_lt F.1 F.2.1 hd ht (fun hx => ?_) (fun hx => ?_)
  · have e1 : eCmp .lt x 0 = true := by simp [eCmp, hx]
    rw [e1] at kk
    exact kk ad bv H locs ls hb hbv hag hag2 hP hD hS hl
  · have e1 : eCmp .lt x 0 = false := by simp [eCmp, hx]
    rw [e1] at kk
    exact kk ad bv H locs ls hb hbv hag hag2 hP hD hS hl
theorem eg_if_ge (F : eFr S p l s m args meth c ox M D cA A bv0) {x : Int32} {o : Int} {tg : Nat} (hd : decode M.2.2.1 pc = .ok (.ifCond .ge o, 3)) (ht : (pc : Int) + o = (tg : Int)) {b : Bool} (hb0 : eCmp .ge x 0 = b) (kk : eKW p l e R s m args below meth c Q M D cA A bv0 N0 ad0 (cond b tg (pc + 3), lv, r, N, h, k, z)) : eKW p l e R s m args below meth c Q M D cA A bv0 N0 ad0 (pc, lv, .int x :: r, N, h, k, z) := by
  intro ad bv H locs ls hb hbv hag hag2 hP hD hS hl
  subst hb0
  refine lv_if_ge F.1 F.2.1 hd ht (fun hx => ?_) (fun hx => ?_)
  · have e1 : eCmp .ge x 0 = true := by simp [eCmp, hx]
    rw [e1] at kk
    exact kk ad bv H locs ls hb hbv hag hag2 hP hD hS hl
  · have e1 : eCmp .ge x 0 = false := by simp [eCmp, hx]
    rw [e1] at kk
    exact kk ad bv H locs ls hb hbv hag hag2 hP hD hS hl
theorem eg_if_gt (F : eFr S p l s m args meth c ox M D cA A bv0) {x : Int32} {o : Int} {tg : Nat} (hd : decode M.2.2.1 pc = .ok (.ifCond .gt o, 3)) (ht : (pc : Int) + o = (tg : Int)) {b : Bool} (hb0 : eCmp .gt x 0 = b) (kk : eKW p l e R s m args below meth c Q M D cA A bv0 N0 ad0 (cond b tg (pc + 3), lv, r, N, h, k, z)) : eKW p l e R s m args below meth c Q M D cA A bv0 N0 ad0 (pc, lv, .int x :: r, N, h, k, z) := by
  intro ad bv H locs ls hb hbv hag hag2 hP hD hS hl
  subst hb0
  refine lv_if_gt F.1 F.2.1 hd ht (fun hx => ?_) (fun hx => ?_)
  · have e1 : eCmp .gt x 0 = true := by simp [eCmp, hx]
    rw [e1] at kk
    exact kk ad bv H locs ls hb hbv hag hag2 hP hD hS hl
  · have e1 : eCmp .gt x 0 = false := by simp [eCmp, hx]
    rw [e1] at kk
    exact kk ad bv H locs ls hb hbv hag hag2 hP hD hS hl
theorem eg_if_le (F : eFr S p l s m args meth c ox M D cA A bv0) {x : Int32} {o : Int} {tg : Nat} (hd : decode M.2.2.1 pc = .ok (.ifCond .le o, 3)) (ht : (pc : Int) + o = (tg : Int)) {b : Bool} (hb0 : eCmp .le x 0 = b) (kk : eKW p l e R s m args below meth c Q M D cA A bv0 N0 ad0 (cond b tg (pc + 3), lv, r, N, h, k, z)) : eKW p l e R s m args below meth c Q M D cA A bv0 N0 ad0 (pc, lv, .int x :: r, N, h, k, z) := by
  intro ad bv H locs ls hb hbv hag hag2 hP hD hS hl
  subst hb0
  refine lv_if_le F.1 F.2.1 hd ht (fun hx => ?_) (fun hx => ?_)
  · have e1 : eCmp .le x 0 = true := by simp [eCmp, hx]
    rw [e1] at kk
    exact kk ad bv H locs ls hb hbv hag hag2 hP hD hS hl
  · have e1 : eCmp .le x 0 = false := by simp [eCmp, hx]
    rw [e1] at kk
    exact kk ad bv H locs ls hb hbv hag hag2 hP hD hS hl
end EG
