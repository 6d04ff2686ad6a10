/-! rows for the law; what its helpers answer -/
section WPL
variable {ox : Nat → Option (Nat × Nat × (Nat → Int32))} {C : eM → List Value → Nat → eHp → eR → Prop} {M : eM} {P : eR → Prop} {pc tg : Nat} {lv : eLv} {st : List Value} {N : Nat} {h : eHp} {k z : Nat}
theorem eW_iaload_o (pc' : Nat) {j n : Nat} {i : Int} {f : Nat → Int32} (hc : eLk pc M.2.2.2.2.2.2 = some (.iaload, tg)) (hp : pc + 1 = pc') (x : Int) (hh : ox j = some (0, n, f)) (h0 : 0 ≤ i) (h1 : i < n) (hi : i32 i) (hx : f i.toNat = Int32.ofInt x) (kk : eWp ox C M (pc', lv, vI x :: st, N, h, k, z) P) : eWp ox C M (pc, lv, vI i :: .retAddr j :: st, N, h, k, z) P := by
  subst hp
  refine eWp.go ?_ kk
  rw [eStep_eq hc]
  simp only [eDo, eAl, hh, Nat.beq_refl, eIn_i h0 h1 hi, ofInt_nat32 hi, hx]
  rfl
theorem eW_arraylength_o (pc' : Nat) {j q n : Nat} {f : Nat → Int32} (hc : eLk pc M.2.2.2.2.2.2 = some (.arraylength, tg)) (hp : pc + 1 = pc') (hh : ox j = some (q, n, f)) (kk : eWp ox C M (pc', lv, vI (n : Int) :: st, N, h, k, z) P) : eWp ox C M (pc, lv, .retAddr j :: st, N, h, k, z) P := by
  subst hp
  refine eWp.go ?_ kk
  rw [eStep_eq hc]
  simp only [eDo, eLen, hh]
  rw [eNatI]; rfl
theorem eW_i2lx (pc' : Nat) {a : Int} (hc : eLk pc M.2.2.2.2.2.2 = some (.i2l, tg)) (hp : pc + 1 = pc') (kk : eWp ox C M (pc', lv, .long (Int32.ofInt a).toInt64 :: st, N, h, k, z) P) : eWp ox C M (pc, lv, vI a :: st, N, h, k, z) P := by
  subst hp
  refine eWp.go ?_ kk
  rw [eStep_eq hc]; rfl
theorem eW_lastorex (pc' : Nat) {a n : Nat} {i : Int} {x : Int64} {F : Nat → Int64} (hc : eLk pc M.2.2.2.2.2.2 = some (.lastore, tg)) (hp : pc + 1 = pc') (ha : Nat.ble (a + 1) N = true) (hh : h a = .inl (4, n, .inr (.inl F))) (h0 : 0 ≤ i) (h1 : i < n) (hi : i32 i)
    (kk : ∀ h' : eHp, h' a = .inl (4, n, .inr (.inl (vp_updL F i.toNat x))) → (∀ i, i ≠ a → h' i = h i) → eWp ox C M (pc', lv, st, N, h', k, z) P) : eWp ox C M (pc, lv, .long x :: vI i :: .ref a :: st, N, h, k, z) P := by
  subst hp
  refine eWp.go ?_ (kk (va_up h a (.inl (4, n, .inr (.inl (vp_updL F i.toNat x))))) (by rw [va_up_self]) (fun i hi => va_up_ne _ _ hi))
  rw [eStep_eq hc]
  simp only [eDo, eAsL, ha, hh, eIn_i h0 h1 hi, ofInt_nat32 hi]
  rfl
theorem eW_laloadx (pc' : Nat) {a n : Nat} {i : Int} {f : Nat → Int64} (hc : eLk pc M.2.2.2.2.2.2 = some (.laload, tg)) (hp : pc + 1 = pc') (x : Int64) (ha : Nat.ble (a + 1) N = true) (hh : h a = .inl (4, n, .inr (.inl f))) (h0 : 0 ≤ i) (h1 : i < n) (hi : i32 i) (hx : f i.toNat = x) (kk : eWp ox C M (pc', lv, .long x :: st, N, h, k, z) P) : eWp ox C M (pc, lv, vI i :: .ref a :: st, N, h, k, z) P := by
  subst hp
  refine eWp.go ?_ kk
  rw [eStep_eq hc]
  simp only [eDo, eAlL, ha, hh, eIn_i h0 h1 hi, ofInt_nat32 hi, hx]
  rfl
theorem lg_cmp_self (x : Int64) : lg_cmp x x = 0 := by
  unfold lg_cmp
  rw [if_neg (fun h => Int64.lt_irrefl h), if_pos rfl]
theorem eW_lcmpE (pc' : Nat) {x y : Int64} (hc : eLk pc M.2.2.2.2.2.2 = some (.lcmp, tg)) (hp : pc + 1 = pc') (e : x = y) (kk : eWp ox C M (pc', lv, vI 0 :: st, N, h, k, z) P) : eWp ox C M (pc, lv, .long y :: .long x :: st, N, h, k, z) P := by
  subst hp; subst e
  refine eWp.go ?_ kk
  rw [eStep_eq hc]
  show eGo (pc + 1) lv (.int (lg_cmp x x) :: st) N h k z = _
  rw [lg_cmp_self]; rfl
theorem eW_icmp_eqE {x : Int} {a b : Int} (hc : eLk pc M.2.2.2.2.2.2 = some (.if_icmp .eq x, tg)) (e : a = b) (kk : eWp ox C M (tg, lv, st, N, h, k, z) P) : eWp ox C M (pc, lv, vI b :: vI a :: st, N, h, k, z) P := by
  subst e
  refine eWp.go ?_ kk
  rw [eStep_eq hc]
  have hd : eCmp .eq (Int32.ofInt a) (Int32.ofInt a) = true := decide_eq_true rfl
  simp only [eDo, hd]; rfl
end WPL
/-- the number of an exception among a helper's handlers -/
def lCd : List String → String → Int
  | [], _ => 0
  | a :: l, E => match decide (a = E) with | true => 1 | false => lCd l E + 1
/-- what a call of the class gives: an answer or an exception; the row w is as it was -/
def lX {α : Type} (w : Nat) (val : α → Value) (r : α ⊕ String) (N : Nat) (h : eHp) (FF : Nat → eHp → Nat → Nat → Prop) : eR → Prop := fun q => ∃ N' h' k z, q = ((match r with | .inl a => .inl (some (val a)) | .inr E => .inr E), N', h', k, z) ∧ N ≤ N' ∧ h' w = h w ∧ FF N' h' k z
def lRow73 (e : va_E) : Prop := ∃ F : Nat → Int64, e = .inl (4, 1, .inr (.inl F))
def lRow74 (e : va_E) : Prop := ∃ f : Nat → UInt64, e = .inl (6, 1, .inr (.inr (.inr (.inl f))))
def lH73 (a : Int) (e : va_E) : Prop := ∃ F : Nat → Int64, e = .inl (4, 1, .inr (.inl F)) ∧ F 0 = (Int32.ofInt a).toInt64
def lH74 (a : UInt64) (e : va_E) : Prop := ∃ f : Nat → UInt64, e = .inl (6, 1, .inr (.inr (.inr (.inl f)))) ∧ f 0 = a
def lH75 (a : UInt32) (e : va_E) : Prop := ∃ f : Nat → UInt64, e = .inl (6, 1, .inr (.inr (.inr (.inl f)))) ∧ f 0 = FP.f2d a
def rH {α : Type} (hold : α → va_E → Prop) (r : α ⊕ String) (l : List String) (x : Int) (e : va_E) : Prop := match r with | .inl a => x = 0 ∧ hold a e | .inr E => x = lCd l E
def rM {α : Type} (r : α ⊕ String) (l : List String) (s7 : Int) (x : α) : Prop := match r with | .inl a => s7 = 0 ∧ x = a | .inr E => s7 = lCd l E
/-- what a helper answers -/
def lR {α : Type} (w : Nat) (row : va_E → Prop) (hold : α → va_E → Prop) (r : α ⊕ String) (l : List String) (FF : Nat → eHp → Nat → Nat → Prop) : eR → Prop := fun q => ∃ N' h1 h' k z x, q = (.inl (some (vI x)), N', h', k, z) ∧ FF N' h1 k z ∧ (∀ i, i ≠ w → h' i = h1 i) ∧ row (h' w) ∧ rH hold r l x (h' w)
theorem lR_M {α : Type} {C : eM → List Value → Nat → eHp → eR → Prop} {M : eM} {args : List Value} {N w : Nat} {h : eHp} {row : va_E → Prop} {hold : α → va_E → Prop} {r : α ⊕ String} {l : List String} {FF : Nat → eHp → Nat → Nat → Prop} (k : ∃ q, C M args N h q ∧ lR w row hold r l FF q) : ∃ q, C M args N h q ∧ ∃ v9 N9 h9 a9 b9, q = (.inl v9, N9, h9, a9, b9) ∧ v9.toList.all eN9 = true ∧ (∃ x h1, some (vI x) = v9 ∧ FF N9 h1 a9 b9 ∧ (∀ i, i ≠ w → h9 i = h1 i) ∧ row (h9 w) ∧ rH hold r l x (h9 w)) := by
  obtain ⟨q, h1, N', g1, h', k, z, x, e, p⟩ := k
  exact ⟨q, h1, some (vI x), N', h', k, z, e, rfl, x, g1, rfl, p⟩
theorem lR_i {α : Type} {w : Nat} {row : va_E → Prop} {hold : α → va_E → Prop} {a : α} {l : List String} {FF : Nat → eHp → Nat → Nat → Prop} {N' k' z' : Nat} {h1 h2 : eHp} (hF : FF N' h1 k' z') (o : ∀ i, i ≠ w → h2 i = h1 i) (hr : row (h2 w)) (hh : hold a (h2 w)) : lR w row hold (.inl a) l FF (.inl (some (vI 0)), N', h2, 0 + k', 0 + z') := by
  rw [Nat.zero_add, Nat.zero_add]
  exact ⟨N', h1, h2, k', z', 0, rfl, hF, o, hr, rfl, hh⟩
theorem lR_x {α : Type} {w : Nat} {row : va_E → Prop} {hold : α → va_E → Prop} {E : String} {l : List String} {FF : Nat → eHp → Nat → Nat → Prop} {N' k' z' : Nat} {h1 : eHp} {x : Int} (hF : FF N' h1 k' z') (hr : row (h1 w)) (hx : x = lCd l E) : lR w row hold (.inr E : α ⊕ String) l FF (.inl (some (vI x)), N', h1, 0 + k', 0 + z') := by
  rw [Nat.zero_add, Nat.zero_add]
  exact ⟨N', h1, h1, k', z', x, rfl, hF, fun _ _ => rfl, hr, hx⟩
/-- what the model answers then -/
def lM (r : Int ⊕ String) (l : List String) (N : Nat) (h : eHp) (FI : eHp → Prop) : eR → Prop := fun q => ∃ h' s' A' x, q = (.inl (some (vI x)), N, h', 0, 0) ∧ mM h' s' A' ∧ h' 73 = h 73 ∧ rM r l (s' 7) x ∧ FI h'
theorem lM_M {C : eM → List Value → Nat → eHp → eR → Prop} {M : eM} {args : List Value} {N : Nat} {h : eHp} {r : Int ⊕ String} {l : List String} {FI : eHp → Prop} (k : ∃ q, C M args N h q ∧ lM r l N h FI q) : ∃ q, C M args N h q ∧ ∃ v9 N9 h9 a9 b9, q = (.inl v9, N9, h9, a9, b9) ∧ v9.toList.all eN9 = true ∧ (∃ x s' A', some (vI x) = v9 ∧ N = N9 ∧ 0 = a9 ∧ 0 = b9 ∧ mM h9 s' A' ∧ h9 73 = h 73 ∧ rM r l (s' 7) x ∧ FI h9) := by
  obtain ⟨q, h1, h', s', A', x, e, p⟩ := k
  exact ⟨q, h1, some (vI x), N, h', 0, 0, e, rfl, x, s', A', rfl, rfl, rfl, rfl, p⟩
def lMD (r : UInt64 ⊕ String) (l : List String) (N : Nat) (h : eHp) (FI : eHp → Prop) : eR → Prop := fun q => ∃ h' s' A' x, q = (.inl (some (.double x)), N, h', 0, 0) ∧ mM h' s' A' ∧ h' 74 = h 74 ∧ rM r l (s' 7) x ∧ FI h'
theorem lMD_M {C : eM → List Value → Nat → eHp → eR → Prop} {M : eM} {args : List Value} {N : Nat} {h : eHp} {r : UInt64 ⊕ String} {l : List String} {FI : eHp → Prop} (k : ∃ q, C M args N h q ∧ lMD r l N h FI q) : ∃ q, C M args N h q ∧ ∃ v9 N9 h9 a9 b9, q = (.inl v9, N9, h9, a9, b9) ∧ v9.toList.all eN9 = true ∧ (∃ x s' A', some (.double x) = v9 ∧ N = N9 ∧ 0 = a9 ∧ 0 = b9 ∧ mM h9 s' A' ∧ h9 74 = h 74 ∧ rM r l (s' 7) x ∧ FI h9) := by
  obtain ⟨q, h1, h', s', A', x, e, p⟩ := k
  exact ⟨q, h1, some (.double x), N, h', 0, 0, e, rfl, x, s', A', rfl, rfl, rfl, rfl, p⟩
def lMF (r : UInt32 ⊕ String) (l : List String) (N : Nat) (h : eHp) (FI : eHp → Prop) : eR → Prop := fun q => ∃ h' s' A' x, q = (.inl (some (.float x)), N, h', 0, 0) ∧ mM h' s' A' ∧ h' 74 = h 74 ∧ rM r l (s' 7) x ∧ FI h'
theorem lMF_M {C : eM → List Value → Nat → eHp → eR → Prop} {M : eM} {args : List Value} {N : Nat} {h : eHp} {r : UInt32 ⊕ String} {l : List String} {FI : eHp → Prop} (k : ∃ q, C M args N h q ∧ lMF r l N h FI q) : ∃ q, C M args N h q ∧ ∃ v9 N9 h9 a9 b9, q = (.inl v9, N9, h9, a9, b9) ∧ v9.toList.all eN9 = true ∧ (∃ x s' A', some (.float x) = v9 ∧ N = N9 ∧ 0 = a9 ∧ 0 = b9 ∧ mM h9 s' A' ∧ h9 74 = h 74 ∧ rM r l (s' 7) x ∧ FI h9) := by
  obtain ⟨q, h1, h', s', A', x, e, p⟩ := k
  exact ⟨q, h1, some (.float x), N, h', 0, 0, e, rfl, x, s', A', rfl, rfl, rfl, rfl, p⟩
/-- a question without a refusal: the class's answer, the model's -/
def lB (v : Int) (N : Nat) (FF : Nat → eHp → Nat → Nat → Prop) : eR → Prop := fun q => ∃ N' h' k z, q = (.inl (some (vI v)), N', h', k, z) ∧ N ≤ N' ∧ FF N' h' k z
theorem lB_M {C : eM → List Value → Nat → eHp → eR → Prop} {M : eM} {args : List Value} {N : Nat} {h : eHp} {v : Int} {FF : Nat → eHp → Nat → Nat → Prop} (k : ∃ q, C M args N h q ∧ lB v N FF q) : ∃ q, C M args N h q ∧ ∃ v9 N9 h9 a9 b9, q = (.inl v9, N9, h9, a9, b9) ∧ v9.toList.all eN9 = true ∧ (some (vI v) = v9 ∧ N ≤ N9 ∧ FF N9 h9 a9 b9) := by
  obtain ⟨q, h1, N', h', k, z, e, p⟩ := k
  exact ⟨q, h1, some (vI v), N', h', k, z, e, rfl, rfl, p⟩
def lNq (v : Int) (N : Nat) (FI : eHp → Prop) : eR → Prop := fun q => ∃ h', q = (.inl (some (vI v)), N, h', 0, 0) ∧ FI h'
theorem lNq_M {C : eM → List Value → Nat → eHp → eR → Prop} {M : eM} {args : List Value} {N : Nat} {h : eHp} {v : Int} {FI : eHp → Prop} (k : ∃ q, C M args N h q ∧ lNq v N FI q) : ∃ q, C M args N h q ∧ ∃ v9 N9 h9 a9 b9, q = (.inl v9, N9, h9, a9, b9) ∧ v9.toList.all eN9 = true ∧ (some (vI v) = v9 ∧ N = N9 ∧ 0 = a9 ∧ 0 = b9 ∧ FI h9) := by
  obtain ⟨q, h1, h', e, p⟩ := k
  exact ⟨q, h1, some (vI v), N, h', 0, 0, e, rfl, rfl, rfl, rfl, rfl, p⟩
/-- handlers that are told of -/
def lOkE (l : List String) {α : Type} (r : α ⊕ String) : Prop := ∀ E, r = .inr E → 1 ≤ lCd l E ∧ lCd l E ≤ 3
