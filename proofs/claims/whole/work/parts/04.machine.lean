/-! THE ABSTRACT MACHINE: the bytecode of the claim's classes, run over a heap of NAMES (numbers 0, 1, ..). A value .ref i is the name i;
.retAddr j is an array outside of the world (0: the script; 1, 2: two tables of digits; 9: an exception that was caught). -/
abbrev eHp : Type := Nat → va_E
abbrev eLv : Type := List (Nat × Value)
abbrev eO : Type := Option Value ⊕ String
abbrev eTab : Type := List (Nat × Instr × Nat)
/-- a method: the number of its class, its name, bytes, locals, result, handlers, instructions (place, instruction, target of a jump) -/
abbrev eM : Type := Nat × MethodName × ByteArray × Nat × Option FieldType × List (Nat × Nat × Nat × Nat) × eTab
/-- a stand: place, locals, stack, names, heap, cells made, slots made -/
abbrev eC : Type := Nat × eLv × List Value × Nat × eHp × Nat × Nat
/-- an end: outcome, names, heap, cells, slots -/
abbrev eR : Type := eO × Nat × eHp × Nat × Nat
/-- the arrays outside -/
abbrev eX : Type := Nat → Option (Nat × (Nat → Int32))
/-- a call: its kind, its index, the callee, its arguments (the receiver first), locals and rest of the stack behind it -/
abbrev eKc : Type := Nat × Nat × eM × List Value × eLv × List Value
abbrev eNx : Type := eC ⊕ (eO ⊕ eKc)
def eLk {α : Type} (k : Nat) : List (Nat × α) → Option α
  | [] => none
  | q :: l => match Nat.beq q.1 k with | true => some q.2 | false => eLk k l
def eP1 (j : Nat) (v : Value) (lv : eLv) : eLv := (j, v) :: lv.filter (fun q => !(q.1 == j) && !(q.1 + 1 == j && q.2.category == 2))
def eP2 (j : Nat) (v : Value) (lv : eLv) : eLv := (j, v) :: lv.filter (fun q => !(q.1 == j) && (!(q.1 == j + 1) && !(q.1 + 1 == j && q.2.category == 2)))
def eGo (pc : Nat) (lv : eLv) (st : List Value) (N : Nat) (h : eHp) (k s : Nat) : Option eNx := some (.inl (pc, lv, st, N, h, k, s))
def eLi (v : Option Value) (pc : Nat) (lv : eLv) (st : List Value) (N : Nat) (h : eHp) (k s : Nat) : Option eNx := match v with
  | some (.int x) => eGo pc lv (.int x :: st) N h k s
  | _ => none
def eLl (v : Option Value) (pc : Nat) (lv : eLv) (st : List Value) (N : Nat) (h : eHp) (k s : Nat) : Option eNx := match v with
  | some (.long x) => eGo pc lv (.long x :: st) N h k s
  | _ => none
def eLa (v : Option Value) (pc : Nat) (lv : eLv) (st : List Value) (N : Nat) (h : eHp) (k s : Nat) : Option eNx := match v with
  | some (.ref a) => eGo pc lv (.ref a :: st) N h k s
  | some (.retAddr a) => eGo pc lv (.retAddr a :: st) N h k s
  | _ => none
def eSi (M : eM) (j : Nat) (pc : Nat) (lv : eLv) (st : List Value) (N : Nat) (h : eHp) (k s : Nat) : Option eNx := match st with
  | .int x :: r => match Nat.ble (j + 1) M.2.2.2.1 with
    | true => eGo pc (eP1 j (.int x) lv) r N h k s
    | false => none
  | _ => none
def eSl (M : eM) (j : Nat) (pc : Nat) (lv : eLv) (st : List Value) (N : Nat) (h : eHp) (k s : Nat) : Option eNx := match st with
  | .long x :: r => match Nat.ble (j + 2) M.2.2.2.1 with
    | true => eGo pc (eP2 j (.long x) lv) r N h k s
    | false => none
  | _ => none
def eSa (M : eM) (j : Nat) (pc : Nat) (lv : eLv) (st : List Value) (N : Nat) (h : eHp) (k s : Nat) : Option eNx := match st with
  | .ref x :: r => match Nat.ble (j + 1) M.2.2.2.1 with
    | true => eGo pc (eP1 j (.ref x) lv) r N h k s
    | false => none
  | .retAddr x :: r => match Nat.ble (j + 1) M.2.2.2.1 with
    | true => eGo pc (eP1 j (.retAddr x) lv) r N h k s
    | false => none
  | _ => none
def eB (f : Int32 → Int32 → Int32) (pc : Nat) (lv : eLv) (st : List Value) (N : Nat) (h : eHp) (k s : Nat) : Option eNx := match st with
  | .int y :: .int x :: r => eGo (pc + 1) lv (.int (f x y) :: r) N h k s
  | _ => none
def eBl (f : Int64 → Int64 → Int64) (pc : Nat) (lv : eLv) (st : List Value) (N : Nat) (h : eHp) (k s : Nat) : Option eNx := match st with
  | .long y :: .long x :: r => eGo (pc + 1) lv (.long (f x y) :: r) N h k s
  | _ => none
def eIf (b : Bool) (tg pc : Nat) (lv : eLv) (r : List Value) (N : Nat) (h : eHp) (k s : Nat) : Option eNx := match b with
  | true => eGo tg lv r N h k s
  | false => eGo (pc + 3) lv r N h k s
def eCmp (cd : ClassFile.Cond) (x y : Int32) : Bool := match cd with
  | .eq => decide (x = y)
  | .ne => decide (x ≠ y)
  | .lt => decide (x < y)
  | .ge => decide (y ≤ x)
  | .gt => decide (y < x)
  | .le => decide (x ≤ y)
/-- i is a place of a row of n -/
def eIn (i : Int32) (n : Nat) : Bool := !(decide (i < 0) || Nat.ble n i.toNatClampNeg)
/-- loads: of a row of ints of one of the kinds kd -/
def eAl (ox : Nat → Option (Nat × Nat × (Nat → Int32))) (kd : Nat → Bool) (pc : Nat) (lv : eLv) (st : List Value) (N : Nat) (h : eHp) (k s : Nat) : Option eNx := match st with
  | .int i :: .ref a :: r => match Nat.ble (a + 1) N with
    | true => match h a with
      | .inl (q, n, .inl f) => match kd q with
        | true => match eIn i n with
          | true => eGo (pc + 1) lv (.int (f i.toNatClampNeg) :: r) N h k s
          | false => none
        | false => none
      | _ => none
    | false => none
  | .int i :: .retAddr j :: r => match ox j with
    | some (q, n, f) => match kd q with
      | true => match eIn i n with
        | true => eGo (pc + 1) lv (.int (f i.toNatClampNeg) :: r) N h k s
        | false => none
      | false => none
    | none => none
  | _ => none
def eAlL (pc : Nat) (lv : eLv) (st : List Value) (N : Nat) (h : eHp) (k s : Nat) : Option eNx := match st with
  | .int i :: .ref a :: r => match Nat.ble (a + 1) N with
    | true => match h a with
      | .inl (4, n, .inr (.inl f)) => match eIn i n with
        | true => eGo (pc + 1) lv (.long (f i.toNatClampNeg) :: r) N h k s
        | false => none
      | _ => none
    | false => none
  | _ => none
def eAlD (pc : Nat) (lv : eLv) (st : List Value) (N : Nat) (h : eHp) (k s : Nat) : Option eNx := match st with
  | .int i :: .ref a :: r => match Nat.ble (a + 1) N with
    | true => match h a with
      | .inl (6, n, .inr (.inr (.inr (.inl f)))) => match eIn i n with
        | true => eGo (pc + 1) lv (.double (f i.toNatClampNeg) :: r) N h k s
        | false => none
      | _ => none
    | false => none
  | _ => none
def eAlA (pc : Nat) (lv : eLv) (st : List Value) (N : Nat) (h : eHp) (k s : Nat) : Option eNx := match st with
  | .int i :: .ref a :: r => match Nat.ble (a + 1) N with
    | true => match h a with
      | .inl (5, n, .inr (.inr (.inr (.inr f)))) => match eIn i n with
        | true => match f i.toNatClampNeg with
          | some b => eGo (pc + 1) lv (.ref b :: r) N h k s
          | none => none
        | false => none
      | _ => none
    | false => none
  | _ => none
/-- stores -/
def eAs (ty : Nat → Option FieldType) (pc : Nat) (lv : eLv) (st : List Value) (N : Nat) (h : eHp) (k s : Nat) : Option eNx := match st with
  | .int x :: .int i :: .ref a :: r => match Nat.ble (a + 1) N with
    | true => match h a with
      | .inl (q, n, .inl f) => match ty q with
        | some t => match eIn i n with
          | true => eGo (pc + 1) lv r N (va_up h a (.inl (q, n, .inl (upd f i.toNatClampNeg (vp_nar t x))))) k s
          | false => none
        | none => none
      | _ => none
    | false => none
  | _ => none
def eAsL (pc : Nat) (lv : eLv) (st : List Value) (N : Nat) (h : eHp) (k s : Nat) : Option eNx := match st with
  | .long x :: .int i :: .ref a :: r => match Nat.ble (a + 1) N with
    | true => match h a with
      | .inl (4, n, .inr (.inl f)) => match eIn i n with
        | true => eGo (pc + 1) lv r N (va_up h a (.inl (4, n, .inr (.inl (vp_updL f i.toNatClampNeg x))))) k s
        | false => none
      | _ => none
    | false => none
  | _ => none
def eAsD (pc : Nat) (lv : eLv) (st : List Value) (N : Nat) (h : eHp) (k s : Nat) : Option eNx := match st with
  | .double x :: .int i :: .ref a :: r => match Nat.ble (a + 1) N with
    | true => match h a with
      | .inl (6, n, .inr (.inr (.inr (.inl f)))) => match eIn i n with
        | true => eGo (pc + 1) lv r N (va_up h a (.inl (6, n, .inr (.inr (.inr (.inl (vf_upd f i.toNatClampNeg x))))))) k s
        | false => none
      | _ => none
    | false => none
  | _ => none
/-- a Garden put into a row of Gardens -/
def eAsA (pc : Nat) (lv : eLv) (st : List Value) (N : Nat) (h : eHp) (k s : Nat) : Option eNx := match st with
  | .ref b :: .int i :: .ref a :: r => match Nat.ble (a + 1) N with
    | true => match Nat.ble (b + 1) N with
      | true => match h b with
        | .inr (4, _) => match h a with
          | .inl (5, n, .inr (.inr (.inr (.inr f)))) => match eIn i n with
            | true => eGo (pc + 1) lv r N (va_up h a (.inl (5, n, .inr (.inr (.inr (.inr (va_up f i.toNatClampNeg (some b)))))))) k s
            | false => none
          | _ => none
        | _ => none
      | false => none
    | false => none
  | _ => none
def eLen (ox : Nat → Option (Nat × Nat × (Nat → Int32))) (pc : Nat) (lv : eLv) (st : List Value) (N : Nat) (h : eHp) (k s : Nat) : Option eNx := match st with
  | .ref a :: r => match Nat.ble (a + 1) N with
    | true => match h a with
      | .inl (q, n, .inl _) => match Nat.ble (q + 1) 4 with
        | true => eGo (pc + 1) lv (.int (Int32.ofNat n) :: r) N h k s
        | false => none
      | _ => none
    | false => none
  | .retAddr j :: r => match ox j with
    | some (_, n, _) => eGo (pc + 1) lv (.int (Int32.ofNat n) :: r) N h k s
    | none => none
  | _ => none
/-- what a field of the type holds -/
def eFit (ty : FieldType) (v : Value) : Bool := match ty, v with
  | .int, .int _ => true
  | .boolean, .int x => decide (vp_nar .boolean x = x)
  | .byte, .int x => decide (vp_nar .byte x = x)
  | .object _, .ref _ => true
  | .array _, .ref _ => true
  | _, _ => false
/-- closed: no name from N on -/
def eClV (N : Nat) (v : Value) : Bool := match v with
  | .ref a => Nat.ble (a + 1) N
  | _ => true
def eClO (N n : Nat) (f : Nat → Option Nat) : Bool := (List.range n).all (fun i => match f i with | some b => Nat.ble (b + 1) N | none => true)
def eClE (N : Nat) (e : va_E) : Bool := match e with
  | .inl (_, n, .inr (.inr (.inr (.inr f)))) => eClO N n f
  | .inl _ => true
  | .inr (_, fs) => fs.all (eClV N)
def eClH (N : Nat) (h : eHp) : Bool := (List.range N).all (fun i => eClE N (h i))
def eClL (N : Nat) (lv : eLv) : Bool := lv.all (fun q => eClV N q.2)
def eClA (N : Nat) (lv : eLv) (st : List Value) (h : eHp) : Bool := eClL N lv && st.all (eClV N) && eClH N h
/-- a new cell -/
def eMk (pc : Nat) (lv : eLv) (r : List Value) (N : Nat) (h : eHp) (k s n : Nat) (e : va_E) : Option eNx := match eClA N lv r h with
  | true => eGo pc lv (.ref N :: r) (N + 1) (va_up h N e) (k + 1) (s + n)
  | false => none
/-- not a caught exception -/
def eN9 (v : Value) : Bool := match v with
  | .retAddr j => !(Nat.beq j 9)
  | _ => true
/-- the room of what stays on the stack below a call -/
def eRm (r : List Value) : Bool := Nat.ble (r.map fun v => v.category).sum 8
def eFitR (q : Nat) (f : Nat → Int32) (sp n : Nat) : Bool := match q with
  | 0 => true
  | 3 => (List.range n).all (fun i => fits .byte (.int (f (sp + i))))
  | _ => false
/-- System.arraycopy of a part of a row of ints, or of bytes -/
def eCopy (pc : Nat) (lv : eLv) (st : List Value) (N : Nat) (h : eHp) (k s : Nat) : Option eNx := match st with
  | .int n :: .int dp :: .ref a :: .int sp :: .ref b :: r => match Nat.ble (a + 1) N && Nat.ble (b + 1) N && eRm r with
    | true => match h a with
      | .inl (q1, n1, .inl g) => match h b with
        | .inl (q0, n0, .inl f) => match Nat.beq q0 q1 && !(decide (sp < 0)) && !(decide (dp < 0)) && !(decide (n < 0)) && Nat.ble (sp.toNatClampNeg + n.toNatClampNeg) n0 && Nat.ble (dp.toNatClampNeg + n.toNatClampNeg) n1 && eFitR q0 f sp.toNatClampNeg n.toNatClampNeg with
          | true => eGo (pc + 3) lv r N (va_up h a (.inl (q1, n1, .inl (va_cpy f g sp.toNatClampNeg dp.toNatClampNeg n.toNatClampNeg)))) k s
          | false => none
        | _ => none
      | _ => none
    | false => none
  | _ => none
/-- a receiver of the class numbered c -/
def eRcv (c : Nat) (N : Nat) (h : eHp) (v : Option Value) : Bool := match v with
  | some (.ref a) => Nat.ble (a + 1) N && (match h a with | .inr (q, _) => Nat.beq q c | _ => false)
  | _ => false
def eRcvA (N : Nat) (v : Option Value) : Bool := match v with
  | some (.ref a) => Nat.ble (a + 1) N
  | _ => false
/-- calls: form 0 invokevirtual, 1 invokestatic, 2 invokespecial; kinds of links: 0 virtual, 1 static, 2 init, 3 init of a nest mate, 4 static of a nest mate, 5 virtual inherited, 6 super, 7 Object.init, 8 arraycopy, 9 and 10 Math.max and min -/
def eInv (form : Nat) (q : Option (Nat × Nat × Nat × eM)) (idx : Nat) (pc : Nat) (lv : eLv) (st : List Value) (N : Nat) (h : eHp) (k s : Nat) : Option eNx := match q with
  | none => none
  | some (kd, c, na, M) => match kd, form with
    | 0, 0 => match eRcv c N h (st[na]?) && eRm (st.drop (na + 1)) && (st.take (na + 1)).all eN9 with
      | true => some (.inr (.inr (0, idx, M, (st.take (na + 1)).reverse, lv, st.drop (na + 1))))
      | false => none
    | 5, 0 => match eRcv c N h (st[na]?) && eRm (st.drop (na + 1)) && (st.take (na + 1)).all eN9 with
      | true => some (.inr (.inr (5, idx, M, (st.take (na + 1)).reverse, lv, st.drop (na + 1))))
      | false => none
    | 1, 1 => match Nat.ble na st.length && eRm (st.drop na) && (st.take na).all eN9 with
      | true => some (.inr (.inr (1, idx, M, (st.take na).reverse, lv, st.drop na)))
      | false => none
    | 4, 1 => match Nat.ble na st.length && eRm (st.drop na) && (st.take na).all eN9 with
      | true => some (.inr (.inr (4, idx, M, (st.take na).reverse, lv, st.drop na)))
      | false => none
    | 2, 2 => match eRcvA N (st[na]?) && eRm (st.drop (na + 1)) && (st.take (na + 1)).all eN9 with
      | true => some (.inr (.inr (2, idx, M, (st.take (na + 1)).reverse, lv, st.drop (na + 1))))
      | false => none
    | 3, 2 => match eRcvA N (st[na]?) && eRm (st.drop (na + 1)) && (st.take (na + 1)).all eN9 with
      | true => some (.inr (.inr (3, idx, M, (st.take (na + 1)).reverse, lv, st.drop (na + 1))))
      | false => none
    | 6, 2 => match eRcv c N h (st[na]?) && eRm (st.drop (na + 1)) && (st.take (na + 1)).all eN9 with
      | true => some (.inr (.inr (6, idx, M, (st.take (na + 1)).reverse, lv, st.drop (na + 1))))
      | false => none
    | 7, 2 => match st with
      | .ref _ :: r => match eRm r with
        | true => eGo (pc + 3) lv r N h k s
        | false => none
      | _ => none
    | 8, 1 => eCopy pc lv st N h k s
    | 9, 1 => match st with
      | .int y :: .int x :: r => match eRm r with
        | true => eGo (pc + 3) lv (.int (if x < y then y else x) :: r) N h k s
        | false => none
      | _ => none
    | 10, 1 => match st with
      | .int y :: .int x :: r => match eRm r with
        | true => eGo (pc + 3) lv (.int (if y < x then y else x) :: r) N h k s
        | false => none
      | _ => none
    | _, _ => none
