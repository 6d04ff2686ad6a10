def eFld (o idx : Nat) : Option (Nat × Nat) := eLk idx (eFldL o)
def eMth (o idx : Nat) : Option (Nat × Nat × Nat × eM) := eLk idx (eMthL o)
/-- the fields' types, by class -/
def eTyp (c : Nat) : Nat → FieldType := match c with
  | 0 => tyJ0 | 1 => tyJ4 | 2 => tyJx00060 | 3 => tyJx7c733 | 4 => tyX0 | 5 => tyX1 | 6 => tyX2 | 7 => tyX3 | 8 => tyX4 | 9 => tyX5 | 10 => tyX6 | _ => tyX7
/-- how many fields -/
def eNum (c : Nat) : Nat := match c with
  | 0 => 4 | 1 => 4 | 2 => 6 | 3 => 6 | 4 => 8 | 5 => 3 | 6 => 3 | 7 => 6 | 8 => 3 | 9 => 5 | 10 => 13 | _ => 23
/-- a new object's fields -/
def eDfl (c : Nat) : List Value := (List.range (eNum c)).map (fun k => defaultValue (eTyp c k))
def eGet (o idx : Nat) (pc : Nat) (lv : eLv) (st : List Value) (N : Nat) (h : eHp) (k s : Nat) : Option eNx := match st with
  | .ref a :: r => match Nat.ble (a + 1) N with
    | true => match eFld o idx with
      | some (c, j) => match h a with
        | .inr (q, fs) => match Nat.beq q c with
          | true => match fs[j]? with
            | some (.retAddr _) => none
            | some v => eGo (pc + 3) lv (v :: r) N h k s
            | none => none
          | false => none
        | _ => none
      | none => none
    | false => none
  | _ => none
/-- may the field be written by this method -/
def eMay (M : eM) (c j : Nat) : Bool := match vwCl[c]? with
  | some q => match (q.2.1 j).2.2.2 with
    | false => true
    | true => decide (M.2.1.name = "<init>") && decide ((q.2.1 j).1 = eOwn M.1)
  | none => false
def ePut (M : eM) (idx : Nat) (pc : Nat) (lv : eLv) (st : List Value) (N : Nat) (h : eHp) (k s : Nat) : Option eNx := match st with
  | v :: .ref a :: r => match Nat.ble (a + 1) N with
    | true => match eFld M.1 idx with
      | some (c, j) => match h a with
        | .inr (q, fs) => match Nat.beq q c && Nat.ble (j + 1) fs.length && eFit (eTyp c j) v && eMay M c j with
          | true => eGo (pc + 3) lv r N (va_up h a (.inr (q, fs.set j v))) k s
          | false => none
        | _ => none
      | none => none
    | false => none
  | _ => none
/-- a new row of a kind -/
def eNwa (q : Nat) (x : (Nat → Int32) ⊕ (Nat → Int64) ⊕ (Nat → UInt32) ⊕ (Nat → UInt64) ⊕ (Nat → Option Nat)) (pc : Nat) (lv : eLv) (st : List Value) (N : Nat) (h : eHp) (k s : Nat) : Option eNx := match st with
  | .int n :: r => match !(decide (n < 0)) && Nat.ble n.toNatClampNeg 65536 with
    | true => eMk pc lv r N h k s n.toNatClampNeg (.inl (q, n.toNatClampNeg, x))
    | false => none
  | _ => none
/-- where a switch goes -/
def eSwT (pc : Nat) (d lo hi : Int) (offs : Array Int) (x : Int32) : Int := if x.toInt < lo then pc + d else if hi < x.toInt then pc + d else pc + offs.getD (x.toInt - lo).toNat d
def eSwL (pc : Nat) (d : Int) (ps : Array (Int × Int)) (x : Int32) : Int := pc + Op.lookupswitch.offset ps.toList d x.toInt
/-- an instruction -/
def eDo (ox : Nat → Option (Nat × Nat × (Nat → Int32))) (M : eM) (i : Instr) (tg pc : Nat) (lv : eLv) (st : List Value) (N : Nat) (h : eHp) (k s : Nat) : Option eNx := match i with
  | .aload_n j => eLa (eLk j.val lv) (pc + 1) lv st N h k s
  | .aload j => eLa (eLk j lv) (pc + 2) lv st N h k s
  | .iload_n j => eLi (eLk j.val lv) (pc + 1) lv st N h k s
  | .iload j => eLi (eLk j lv) (pc + 2) lv st N h k s
  | .lload_n j => eLl (eLk j.val lv) (pc + 1) lv st N h k s
  | .lload j => eLl (eLk j lv) (pc + 2) lv st N h k s
  | .iconst n => eGo (pc + 1) lv (.int (Int32.ofInt n) :: st) N h k s
  | .bipush n => eGo (pc + 2) lv (.int (Int8.ofInt n).toInt32 :: st) N h k s
  | .sipush n => eGo (pc + 3) lv (.int (Int16.ofInt n).toInt32 :: st) N h k s
  | .lconst n => eGo (pc + 1) lv (.long (Int64.ofNat n.val) :: st) N h k s
  | .getfield x => eGet M.1 x pc lv st N h k s
  | .putfield x => ePut M x pc lv st N h k s
  | .getstatic x => match eLk x (eStaL M.1) with
    | some v => eGo (pc + 3) lv (v :: st) N h k s
    | none => none
  | .invokevirtual x => eInv 0 (eMth M.1 x) x pc lv st N h k s
  | .invokestatic x => eInv 1 (eMth M.1 x) x pc lv st N h k s
  | .invokespecial x => eInv 2 (eMth M.1 x) x pc lv st N h k s
  | .ifCond c _ => match st with
    | .int x :: r => eIf (eCmp c x 0) tg pc lv r N h k s
    | _ => none
  | .if_icmp c _ => match st with
    | .int y :: .int x :: r => eIf (eCmp c x y) tg pc lv r N h k s
    | _ => none
  | .ifnull _ => match st with
    | .ref _ :: r => eGo (pc + 3) lv r N h k s
    | _ => none
  | .goto _ => eGo tg lv st N h k s
  | .ireturn => match st, M.2.2.2.2.1 with
    | [.int x], some .int => some (.inr (.inl (.inl (some (.int x)))))
    | [.int x], some .boolean => match decide (vp_nar .boolean x = x) with
      | true => some (.inr (.inl (.inl (some (.int x)))))
      | false => none
    | [.int x], some .char => match decide (vp_nar .char x = x) with
      | true => some (.inr (.inl (.inl (some (.int x)))))
      | false => none
    | _, _ => none
  | .lreturn => match st, M.2.2.2.2.1 with
    | [.long x], some .long => some (.inr (.inl (.inl (some (.long x)))))
    | _, _ => none
  | .areturn => match st, M.2.2.2.2.1 with
    | [.ref x], some (.object _) => some (.inr (.inl (.inl (some (.ref x)))))
    | [.ref x], some (.array _) => some (.inr (.inl (.inl (some (.ref x)))))
    | _, _ => none
  | .return_ => match st, M.2.2.2.2.1 with
    | [], none => some (.inr (.inl (.inl none)))
    | _, _ => none
  | .iadd => eB (fun x y => x + y) pc lv st N h k s
  | .isub => eB (fun x y => x - y) pc lv st N h k s
  | .imul => eB (fun x y => x * y) pc lv st N h k s
  | .iand => eB (fun x y => x &&& y) pc lv st N h k s
  | .ior => eB (fun x y => x ||| y) pc lv st N h k s
  | .ixor => eB (fun x y => x ^^^ y) pc lv st N h k s
  | .ishl => eB (fun x y => x <<< (y &&& 31)) pc lv st N h k s
  | .ishr => eB (fun x y => x >>> (y &&& 31)) pc lv st N h k s
  | .iushr => eB (fun x y => (x.toUInt32 >>> (y.toUInt32 &&& Int32.toUInt32 31)).toInt32) pc lv st N h k s
  | .idiv => match st with
    | .int y :: .int x :: r => match decide (y = 0) with
      | true => none
      | false => eGo (pc + 1) lv (.int (x / y) :: r) N h k s
    | _ => none
  | .irem => match st with
    | .int y :: .int x :: r => match decide (y = 0) with
      | true => none
      | false => eGo (pc + 1) lv (.int (x - x / y * y) :: r) N h k s
    | _ => none
  | .ineg => match st with
    | .int x :: r => eGo (pc + 1) lv (.int (-x) :: r) N h k s
    | _ => none
  | .ladd => eBl (fun x y => x + y) pc lv st N h k s
  | .lsub => eBl (fun x y => x - y) pc lv st N h k s
  | .lmul => eBl (fun x y => x * y) pc lv st N h k s
  | .land => eBl (fun x y => x &&& y) pc lv st N h k s
  | .lshl => match st with
    | .int y :: .long x :: r => eGo (pc + 1) lv (.long (x <<< (y.toInt64 &&& 63)) :: r) N h k s
    | _ => none
  | .lcmp => match st with
    | .long y :: .long x :: r => eGo (pc + 1) lv (.int (lg_cmp x y) :: r) N h k s
    | _ => none
  | .i2l => match st with
    | .int x :: r => eGo (pc + 1) lv (.long x.toInt64 :: r) N h k s
    | _ => none
  | .i2b => match st with
    | .int x :: r => eGo (pc + 1) lv (.int x.toInt8.toInt32 :: r) N h k s
    | _ => none
  | .i2c => match st with
    | .int x :: r => eGo (pc + 1) lv (.int (x.toUInt32 % 65536).toInt32 :: r) N h k s
    | _ => none
  | .iinc j n => match eLk j lv with
    | some (.int x) => match Nat.ble (j + 1) M.2.2.2.1 with
      | true => eGo (pc + 3) (eP1 j (.int (x + Int32.ofInt n)) lv) st N h k s
      | false => none
    | _ => none
  | .istore_n j => eSi M j.val (pc + 1) lv st N h k s
  | .istore j => eSi M j (pc + 2) lv st N h k s
  | .lstore_n j => eSl M j.val (pc + 1) lv st N h k s
  | .lstore j => eSl M j (pc + 2) lv st N h k s
  | .astore_n j => eSa M j.val (pc + 1) lv st N h k s
  | .astore j => eSa M j (pc + 2) lv st N h k s
  | .dup => match st with
    | v :: r => match Nat.beq v.category 1 with
      | true => eGo (pc + 1) lv (v :: v :: r) N h k s
      | false => none
    | _ => none
  | .dup_x1 => match st with
    | v :: w :: r => match Nat.beq v.category 1 && Nat.beq w.category 1 with
      | true => eGo (pc + 1) lv (v :: w :: v :: r) N h k s
      | false => none
    | _ => none
  | .dup2 => match st with
    | v :: w :: r => match Nat.beq v.category 1 && Nat.beq w.category 1 with
      | true => eGo (pc + 1) lv (v :: w :: v :: w :: r) N h k s
      | false => none
    | _ => none
  | .pop => match st with
    | v :: r => match Nat.beq v.category 1 with
      | true => eGo (pc + 1) lv r N h k s
      | false => none
    | _ => none
  | .iaload => eAl ox (fun q => Nat.beq q 0) pc lv st N h k s
  | .baload => eAl ox (fun q => Nat.beq q 2 || Nat.beq q 3) pc lv st N h k s
  | .caload => eAl ox (fun q => Nat.beq q 1) pc lv st N h k s
  | .laload => eAlL pc lv st N h k s
  | .daload => eAlD pc lv st N h k s
  | .aaload => eAlA pc lv st N h k s
  | .iastore => eAs (fun q => match q with | 0 => some .int | _ => none) pc lv st N h k s
  | .bastore => eAs (fun q => match q with | 2 => some .boolean | 3 => some .byte | _ => none) pc lv st N h k s
  | .castore => eAs (fun q => match q with | 1 => some .char | _ => none) pc lv st N h k s
  | .lastore => eAsL pc lv st N h k s
  | .dastore => eAsD pc lv st N h k s
  | .aastore => eAsA pc lv st N h k s
  | .arraylength => eLen ox pc lv st N h k s
  | .ldc x => match eLk x (eCstL M.1) with
    | some v => eGo (pc + 2) lv (.int v :: st) N h k s
    | none => none
  | .ldc_w x => match eLk x (eCstL M.1) with
    | some v => eGo (pc + 3) lv (.int v :: st) N h k s
    | none => none
  | .ldc2_w x => match eLk x (eCsLL M.1) with
    | some v => eGo (pc + 3) lv (.long v :: st) N h k s
    | none => none
  | .new x => match eLk x (eNewL M.1) with
    | some c => eMk (pc + 3) lv st N h k s (eNum c) (.inr (c, eDfl c))
    | none => match eLk x (eExcL M.1) with
      | some E => match eRm st with
        | true => some (.inr (.inl (.inr E)))
        | false => none
      | none => none
  | .newarray t => match t with
    | .int => eNwa 0 (.inl (fun _ => 0)) (pc + 2) lv st N h k s
    | .char => eNwa 1 (.inl (fun _ => 0)) (pc + 2) lv st N h k s
    | .boolean => eNwa 2 (.inl (fun _ => 0)) (pc + 2) lv st N h k s
    | .byte => eNwa 3 (.inl (fun _ => 0)) (pc + 2) lv st N h k s
    | .long => eNwa 4 (.inr (.inl (fun _ => 0))) (pc + 2) lv st N h k s
    | .double => eNwa 6 (.inr (.inr (.inr (.inl (fun _ => 0))))) (pc + 2) lv st N h k s
    | _ => none
  | .anewarray x => match eLk x (eAnwL M.1) with
    | some _ => eNwa 5 (.inr (.inr (.inr (.inr (fun _ => none))))) (pc + 3) lv st N h k s
    | none => none
  | .i2d => match st with
    | .int x :: r => eGo (pc + 1) lv (.double (FP.i2d x) :: r) N h k s
    | _ => none
  | .i2f => match st with
    | .int x :: r => eGo (pc + 1) lv (.float (FP.i2f x) :: r) N h k s
    | _ => none
  | .ddiv => match st with
    | .double y :: .double x :: r => match decide (FP.ddiv x y &&& 0x7fffffffffffffff ≤ 0x7ff0000000000000) with
      | true => eGo (pc + 1) lv (.double (FP.ddiv x y) :: r) N h k s
      | false => none
    | _ => none
  | .fdiv => match st with
    | .float y :: .float x :: r => match decide (FP.fdiv x y &&& 0x7fffffff ≤ 0x7f800000) with
      | true => eGo (pc + 1) lv (.float (FP.fdiv x y) :: r) N h k s
      | false => none
    | _ => none
  | .f2d => match st with
    | .float x :: r => match decide (FP.f2d x &&& 0x7fffffffffffffff ≤ 0x7ff0000000000000) with
      | true => eGo (pc + 1) lv (.double (FP.f2d x) :: r) N h k s
      | false => none
    | _ => none
  | .dcmp op => match st with
    | .double y :: .double x :: r => eGo (pc + 1) lv (.int (Op.cmpValue (FP.dcmp x y) op) :: r) N h k s
    | _ => none
  | .fcmp op => match st with
    | .float y :: .float x :: r => eGo (pc + 1) lv (.int (Op.cmpValue (FP.fcmp x y) op) :: r) N h k s
    | _ => none
  | .dconst d => match d with
    | 0 => eGo (pc + 1) lv (.double 0 :: st) N h k s
    | _ => none
  | .fconst f => match f with
    | 0 => eGo (pc + 1) lv (.float 0 :: st) N h k s
    | _ => none
  | .dload j => match eLk j lv with
    | some (.double x) => eGo (pc + 2) lv (.double x :: st) N h k s
    | _ => none
  | .fload j => match eLk j lv with
    | some (.float x) => eGo (pc + 2) lv (.float x :: st) N h k s
    | _ => none
  | .dstore j => match st with
    | .double x :: r => match Nat.ble (j + 2) M.2.2.2.1 with
      | true => eGo (pc + 2) (eP2 j (.double x) lv) r N h k s
      | false => none
    | _ => none
  | .fstore j => match st with
    | .float x :: r => match Nat.ble (j + 1) M.2.2.2.1 with
      | true => eGo (pc + 2) (eP1 j (.float x) lv) r N h k s
      | false => none
    | _ => none
  | .dreturn => match st, M.2.2.2.2.1 with
    | [.double x], some .double => some (.inr (.inl (.inl (some (.double x)))))
    | _, _ => none
  | .freturn => match st, M.2.2.2.2.1 with
    | [.float x], some .float => some (.inr (.inl (.inl (some (.float x)))))
    | _, _ => none
  | .tableswitch d lo hi offs => match st with
    | .int x :: r => match eSwT pc d lo hi offs x with
      | .ofNat t => eGo t lv r N h k s
      | .negSucc _ => none
    | _ => none
  | .lookupswitch d ps => match st with
    | .int x :: r => match eSwL pc d ps x with
      | .ofNat t => eGo t lv r N h k s
      | .negSucc _ => none
    | _ => none
  | _ => none
/-- one step -/
def eStep (ox : Nat → Option (Nat × Nat × (Nat → Int32))) (M : eM) (c : eC) : Option eNx := match eLk c.1 M.2.2.2.2.2.2 with
  | some (i, tg) => eDo ox M i tg c.1 c.2.1 c.2.2.1 c.2.2.2.1 c.2.2.2.2.1 c.2.2.2.2.2.1 c.2.2.2.2.2.2
  | none => none
/-- a handler that takes E at pc -/
def eHan (o pc : Nat) (E : String) : List (Nat × Nat × Nat × Nat) → Option Nat
  | [] => none
  | q :: l => match Nat.ble q.1 pc && Nat.ble (pc + 1) q.2.1 with
    | false => eHan o pc E l
    | true => match eLk q.2.2.2 (eHanL o) with
      | none => none
      | some C => match decide (C = E) with
        | true => some q.2.2.1
        | false => eHan o pc E l
/-- behind a call -/
def eBack (M : eM) (c : eC) (lv : eLv) (r : List Value) (q : eR) : Option eC := match Nat.beq q.2.1 c.2.2.2.1 || (eClL c.2.2.2.1 lv && r.all (eClV c.2.2.2.1)) with
  | true => match q.1 with
    | .inl v => match v.toList.all eN9 with
      | true => some (c.1 + 3, lv, v.toList ++ r, q.2.1, q.2.2.1, c.2.2.2.2.2.1 + q.2.2.2.1, c.2.2.2.2.2.2 + q.2.2.2.2)
      | false => none
    | .inr E => match eHan M.1 c.1 E M.2.2.2.2.2.1 with
      | some t => match lv.all (fun q => eN9 q.2) with
        | false => none
        | true => some (t, lv, [.retAddr 9], q.2.1, q.2.2.1, c.2.2.2.2.2.1 + q.2.2.2.1, c.2.2.2.2.2.2 + q.2.2.2.2)
      | none => none
  | false => none
/-- from one stand to another, calls answered by C -/
def eTo (ox : Nat → Option (Nat × Nat × (Nat → Int32))) (C : eM → List Value → Nat → eHp → eR → Prop) (M : eM) : Nat → eC → eC → Prop
  | 0, c, d => c = d
  | n + 1, c, d => match eStep ox M c with
    | some (.inl c') => eTo ox C M n c' d
    | some (.inr (.inr (_, _, M', args, lv, r))) => ∃ q c', C M' args c.2.2.2.1 c.2.2.2.2.1 q ∧ eBack M c lv r q = some c' ∧ eTo ox C M n c' d
    | _ => False
/-- the end at a stand -/
def eEnd (ox : Nat → Option (Nat × Nat × (Nat → Int32))) (M : eM) (c : eC) : Option eR := match eStep ox M c with
  | some (.inr (.inl (.inl v))) => some (.inl v, c.2.2.2.1, c.2.2.2.2.1, c.2.2.2.2.2.1, c.2.2.2.2.2.2)
  | some (.inr (.inl (.inr E))) => some (.inr E, c.2.2.2.1, c.2.2.2.2.1, c.2.2.2.2.2.1 + 1, c.2.2.2.2.2.2 + 6)
  | _ => none
/-- the two tables of digits -/
def eOx : Nat → Option (Nat × Nat × (Nat → Int32)) := fun j => match j with
  | 1 => some (3, 100, fun i => Int32.ofNat (48 + i % 10))
  | 2 => some (3, 100, fun i => Int32.ofNat (48 + i / 10))
  | _ => none
/-- a method run, d calls deep -/
def eEv : Nat → eM → List Value → Nat → eHp → eR → Prop
  | 0, _, _, _, _, _ => False
  | d + 1, M, args, N, h, q => Nat.ble (lg_sl args).length M.2.2.2.1 = true ∧ ∃ n c, eTo eOx (eEv d) M n (0, lv_args 0 args, [], N, h, 0, 0) c ∧ eEnd eOx M c = some q
