/-! steps over integers: a run from a stand that ends in P -/
abbrev vI (a : Int) : Value := .int (Int32.ofInt a)
abbrev vL (a : Int) : Value := .long (Int64.ofInt a)
def i32 (a : Int) : Prop := -2147483648 ≤ a ∧ a ≤ 2147483647
/-- a row of ints -/
def eIA (F : Nat → Int) : Nat → Int32 := fun j => Int32.ofInt (F j)
def eUp (F : Nat → Int) (i : Nat) (x : Int) : Nat → Int := fun j => if j = i then x else F j
def eLA (F : Nat → Int) : Nat → Int64 := fun j => Int64.ofInt (F j)
theorem ofInt_toInt32 {a : Int} (h : i32 a) : (Int32.ofInt a).toInt = a := Int32.toInt_ofInt_of_le (by have := h.1; omega) (by have := h.2; omega)
theorem ofInt_inj32 {a b : Int} (ha : i32 a) (hb : i32 b) : Int32.ofInt a = Int32.ofInt b ↔ a = b := ⟨fun h => by rw [← ofInt_toInt32 ha, ← ofInt_toInt32 hb, h], fun h => by rw [h]⟩
theorem ofInt_lt32 {a b : Int} (ha : i32 a) (hb : i32 b) : Int32.ofInt a < Int32.ofInt b ↔ a < b := by rw [Int32.lt_iff_toInt_lt, ofInt_toInt32 ha, ofInt_toInt32 hb]
theorem ofInt_le32 {a b : Int} (ha : i32 a) (hb : i32 b) : Int32.ofInt a ≤ Int32.ofInt b ↔ a ≤ b := by rw [Int32.le_iff_toInt_le, ofInt_toInt32 ha, ofInt_toInt32 hb]
theorem ofInt_nat32 {a : Int} (h : i32 a) : (Int32.ofInt a).toNatClampNeg = a.toNat := by show (Int32.ofInt a).toInt.toNat = _; rw [ofInt_toInt32 h]
theorem i32_zero : i32 0 := ⟨by decide, by decide⟩
theorem eIn_i {i : Int} {n : Nat} (hi : 0 ≤ i) (hn : i < n) (h : i32 i) : eIn (Int32.ofInt i) n = true := by
  unfold eIn
  rw [ofInt_nat32 h]
  have h1 : ¬ Int32.ofInt i < 0 := by rw [show (0 : Int32) = Int32.ofInt 0 from rfl, ofInt_lt32 h i32_zero]; omega
  have h2 : Nat.ble n i.toNat = false := by
    rw [← Bool.not_eq_true, Nat.ble_eq]; omega
  rw [h2, decide_eq_false h1]; rfl
theorem eIA_up (F : Nat → Int) (i : Nat) (x : Int) : upd (eIA F) i (Int32.ofInt x) = eIA (eUp F i x) := by
  funext j
  unfold upd eIA eUp
  split <;> rfl
/-- from a stand to an end with P -/
def eWp (ox : Nat → Option (Nat × Nat × (Nat → Int32))) (C : eM → List Value → Nat → eHp → eR → Prop) (M : eM) (c : eC) (P : eR → Prop) : Prop := ∃ q, eRn ox C M c q ∧ P q
def eSp (d : Nat) (M : eM) (args : List Value) (N : Nat) (h : eHp) (P : eR → Prop) : Prop := ∃ q, eEv d M args N h q ∧ P q
theorem eSp_of {d : Nat} {M : eM} {args : List Value} {N : Nat} {h : eHp} {P : eR → Prop} (lv : eLv) (hl : Nat.ble (lg_sl args).length M.2.2.2.1 = true) (hlv : lv_args 0 args = lv) (k : eWp eOx (eEv d) M (0, lv, [], N, h, 0, 0) P) : eSp (d + 1) M args N h P := by
  obtain ⟨q, h1, h2⟩ := k
  exact ⟨q, eEv_of hl (hlv ▸ h1), h2⟩
theorem eSp.imp {d : Nat} {M : eM} {args : List Value} {N : Nat} {h : eHp} {P P' : eR → Prop} (k : eSp d M args N h P) (hp : ∀ q, P q → P' q) : eSp d M args N h P' := by
  obtain ⟨q, h1, h2⟩ := k
  exact ⟨q, h1, hp q h2⟩
theorem eWp.imp {ox C M c} {P P' : eR → Prop} (k : eWp ox C M c P) (hp : ∀ q, P q → P' q) : eWp ox C M c P' := by
  obtain ⟨q, h1, h2⟩ := k
  exact ⟨q, h1, hp q h2⟩
/-- returns v, nothing made, nothing changed -/
def eRet (v : Option Value) (N : Nat) (h : eHp) : eR → Prop := fun q => q = (.inl v, N, h, 0, 0)
theorem eWp.go {ox C M} {c c' : eC} {P : eR → Prop} (h : eStep ox M c = some (.inl c')) (k : eWp ox C M c' P) : eWp ox C M c P := by
  obtain ⟨q, h1, h2⟩ := k
  exact ⟨q, eRn.go h h1, h2⟩
theorem eStep_eq {ox M pc lv st N h k z i tg} (hc : eLk pc M.2.2.2.2.2.2 = some (i, tg)) : eStep ox M (pc, lv, st, N, h, k, z) = eDo ox M i tg pc lv st N h k z := by
  unfold eStep; simp only [hc]
section WP
variable {ox : Nat → Option (Nat × Nat × (Nat → Int32))} {C : eM → List Value → Nat → eHp → eR → Prop} {M : eM} {P : eR → Prop} {pc tg : Nat} {lv : eLv} {st : List Value} {N : Nat} {h : eHp} {k z : Nat}
theorem eW_end {q : eR} (he : eEnd ox M (pc, lv, st, N, h, k, z) = some q) (hp : P q) : eWp ox C M (pc, lv, st, N, h, k, z) P := ⟨q, eRn.done he, hp⟩
theorem eW_iconst (pc' : Nat) {n : Int} (hc : eLk pc M.2.2.2.2.2.2 = some (.iconst n, tg)) (hp : pc + 1 = pc')  (kk : eWp ox C M (pc', lv, vI n :: st, N, h, k, z) P) : eWp ox C M (pc, lv, st, N, h, k, z) P := by
  subst hp
  refine eWp.go ?_ kk
  rw [eStep_eq hc]
  rfl
theorem eW_bipush (pc' : Nat) {n : Int} (hc : eLk pc M.2.2.2.2.2.2 = some (.bipush n, tg)) (hp : pc + 2 = pc') (a : Int) (ha : (Int8.ofInt n).toInt32 = Int32.ofInt a) (kk : eWp ox C M (pc', lv, vI a :: st, N, h, k, z) P) : eWp ox C M (pc, lv, st, N, h, k, z) P := by
  subst hp
  refine eWp.go ?_ kk
  rw [eStep_eq hc]
  show eGo _ _ _ _ _ _ _ = _
  rw [ha]; rfl
theorem eW_sipush (pc' : Nat) {n : Int} (hc : eLk pc M.2.2.2.2.2.2 = some (.sipush n, tg)) (hp : pc + 3 = pc') (a : Int) (ha : (Int16.ofInt n).toInt32 = Int32.ofInt a) (kk : eWp ox C M (pc', lv, vI a :: st, N, h, k, z) P) : eWp ox C M (pc, lv, st, N, h, k, z) P := by
  subst hp
  refine eWp.go ?_ kk
  rw [eStep_eq hc]
  show eGo _ _ _ _ _ _ _ = _
  rw [ha]; rfl
theorem eW_lconst (pc' : Nat) {n : Fin 2} (hc : eLk pc M.2.2.2.2.2.2 = some (.lconst n, tg)) (hp : pc + 1 = pc') (a : Int) (ha : Int64.ofNat n.val = Int64.ofInt a) (kk : eWp ox C M (pc', lv, vL a :: st, N, h, k, z) P) : eWp ox C M (pc, lv, st, N, h, k, z) P := by
  subst hp
  refine eWp.go ?_ kk
  rw [eStep_eq hc]
  show eGo _ _ _ _ _ _ _ = _
  rw [ha]; rfl
theorem eW_ldc (pc' : Nat) {x : Nat} (hc : eLk pc M.2.2.2.2.2.2 = some (.ldc x, tg)) (hp : pc + 2 = pc') (a : Int) (ha : eLk x (eCstL M.1) = some (Int32.ofInt a)) (kk : eWp ox C M (pc', lv, vI a :: st, N, h, k, z) P) : eWp ox C M (pc, lv, st, N, h, k, z) P := by
  subst hp
  refine eWp.go ?_ kk
  rw [eStep_eq hc]
  simp only [eDo, ha]; rfl
theorem eW_ldc_w (pc' : Nat) {x : Nat} (hc : eLk pc M.2.2.2.2.2.2 = some (.ldc_w x, tg)) (hp : pc + 3 = pc') (a : Int) (ha : eLk x (eCstL M.1) = some (Int32.ofInt a)) (kk : eWp ox C M (pc', lv, vI a :: st, N, h, k, z) P) : eWp ox C M (pc, lv, st, N, h, k, z) P := by
  subst hp
  refine eWp.go ?_ kk
  rw [eStep_eq hc]
  simp only [eDo, ha]; rfl
theorem eW_ldc2_w (pc' : Nat) {x : Nat} (hc : eLk pc M.2.2.2.2.2.2 = some (.ldc2_w x, tg)) (hp : pc + 3 = pc') (a : Int) (ha : eLk x (eCsLL M.1) = some (Int64.ofInt a)) (kk : eWp ox C M (pc', lv, vL a :: st, N, h, k, z) P) : eWp ox C M (pc, lv, st, N, h, k, z) P := by
  subst hp
  refine eWp.go ?_ kk
  rw [eStep_eq hc]
  simp only [eDo, ha]; rfl
theorem eW_iload_n (pc' : Nat) {j : Fin 4} {a : Int} (hc : eLk pc M.2.2.2.2.2.2 = some (.iload_n j, tg)) (hp : pc + 1 = pc') (hl : eLk j.val lv = some (vI a)) (kk : eWp ox C M (pc', lv, vI a :: st, N, h, k, z) P) : eWp ox C M (pc, lv, st, N, h, k, z) P := by
  subst hp
  refine eWp.go ?_ kk
  rw [eStep_eq hc]
  simp only [eDo, hl]; rfl
theorem eW_aload_n (pc' : Nat) {j : Fin 4} {a : Nat} (hc : eLk pc M.2.2.2.2.2.2 = some (.aload_n j, tg)) (hp : pc + 1 = pc') (hl : eLk j.val lv = some (.ref a)) (kk : eWp ox C M (pc', lv, .ref a :: st, N, h, k, z) P) : eWp ox C M (pc, lv, st, N, h, k, z) P := by
  subst hp
  refine eWp.go ?_ kk
  rw [eStep_eq hc]
  simp only [eDo, hl]; rfl
theorem eW_aload_n_out (pc' : Nat) {j : Fin 4} {a : Nat} (hc : eLk pc M.2.2.2.2.2.2 = some (.aload_n j, tg)) (hp : pc + 1 = pc') (hl : eLk j.val lv = some (.retAddr a)) (kk : eWp ox C M (pc', lv, .retAddr a :: st, N, h, k, z) P) : eWp ox C M (pc, lv, st, N, h, k, z) P := by
  subst hp
  refine eWp.go ?_ kk
  rw [eStep_eq hc]
  simp only [eDo, hl]; rfl
theorem eW_lload_n (pc' : Nat) {j : Fin 4} {a : Int} (hc : eLk pc M.2.2.2.2.2.2 = some (.lload_n j, tg)) (hp : pc + 1 = pc') (hl : eLk j.val lv = some (vL a)) (kk : eWp ox C M (pc', lv, vL a :: st, N, h, k, z) P) : eWp ox C M (pc, lv, st, N, h, k, z) P := by
  subst hp
  refine eWp.go ?_ kk
  rw [eStep_eq hc]
  simp only [eDo, hl]; rfl
theorem eW_istore_n (pc' : Nat) {j : Fin 4} {a : Int} (hc : eLk pc M.2.2.2.2.2.2 = some (.istore_n j, tg)) (hp : pc + 1 = pc') (lv' : eLv) (hm : Nat.ble (j.val + 1) M.2.2.2.1 = true) (hl : eP1 j.val (vI a) lv = lv') (kk : eWp ox C M (pc', lv', st, N, h, k, z) P) : eWp ox C M (pc, lv, vI a :: st, N, h, k, z) P := by
  subst hp
  refine eWp.go ?_ kk
  rw [eStep_eq hc]
  simp only [eDo, eSi, hm, hl]; rfl
theorem eW_astore_n (pc' : Nat) {j : Fin 4} {a : Nat} (hc : eLk pc M.2.2.2.2.2.2 = some (.astore_n j, tg)) (hp : pc + 1 = pc') (lv' : eLv) (hm : Nat.ble (j.val + 1) M.2.2.2.1 = true) (hl : eP1 j.val (.ref a) lv = lv') (kk : eWp ox C M (pc', lv', st, N, h, k, z) P) : eWp ox C M (pc, lv, .ref a :: st, N, h, k, z) P := by
  subst hp
  refine eWp.go ?_ kk
  rw [eStep_eq hc]
  simp only [eDo, eSa, hm, hl]; rfl
theorem eW_astore_n_out (pc' : Nat) {j : Fin 4} {a : Nat} (hc : eLk pc M.2.2.2.2.2.2 = some (.astore_n j, tg)) (hp : pc + 1 = pc') (lv' : eLv) (hm : Nat.ble (j.val + 1) M.2.2.2.1 = true) (hl : eP1 j.val (.retAddr a) lv = lv') (kk : eWp ox C M (pc', lv', st, N, h, k, z) P) : eWp ox C M (pc, lv, .retAddr a :: st, N, h, k, z) P := by
  subst hp
  refine eWp.go ?_ kk
  rw [eStep_eq hc]
  simp only [eDo, eSa, hm, hl]; rfl
theorem eW_lstore_n (pc' : Nat) {j : Fin 4} {a : Int} (hc : eLk pc M.2.2.2.2.2.2 = some (.lstore_n j, tg)) (hp : pc + 1 = pc') (lv' : eLv) (hm : Nat.ble (j.val + 2) M.2.2.2.1 = true) (hl : eP2 j.val (vL a) lv = lv') (kk : eWp ox C M (pc', lv', st, N, h, k, z) P) : eWp ox C M (pc, lv, vL a :: st, N, h, k, z) P := by
  subst hp
  refine eWp.go ?_ kk
  rw [eStep_eq hc]
  simp only [eDo, eSl, hm, hl]; rfl
theorem eW_iload (pc' : Nat) {j : Nat} {a : Int} (hc : eLk pc M.2.2.2.2.2.2 = some (.iload j, tg)) (hp : pc + 2 = pc') (hl : eLk j lv = some (vI a)) (kk : eWp ox C M (pc', lv, vI a :: st, N, h, k, z) P) : eWp ox C M (pc, lv, st, N, h, k, z) P := by
  subst hp
  refine eWp.go ?_ kk
  rw [eStep_eq hc]
  simp only [eDo, hl]; rfl
theorem eW_aload (pc' : Nat) {j : Nat} {a : Nat} (hc : eLk pc M.2.2.2.2.2.2 = some (.aload j, tg)) (hp : pc + 2 = pc') (hl : eLk j lv = some (.ref a)) (kk : eWp ox C M (pc', lv, .ref a :: st, N, h, k, z) P) : eWp ox C M (pc, lv, st, N, h, k, z) P := by
  subst hp
  refine eWp.go ?_ kk
  rw [eStep_eq hc]
  simp only [eDo, hl]; rfl
theorem eW_aload_out (pc' : Nat) {j : Nat} {a : Nat} (hc : eLk pc M.2.2.2.2.2.2 = some (.aload j, tg)) (hp : pc + 2 = pc') (hl : eLk j lv = some (.retAddr a)) (kk : eWp ox C M (pc', lv, .retAddr a :: st, N, h, k, z) P) : eWp ox C M (pc, lv, st, N, h, k, z) P := by
  subst hp
  refine eWp.go ?_ kk
  rw [eStep_eq hc]
  simp only [eDo, hl]; rfl
theorem eW_lload (pc' : Nat) {j : Nat} {a : Int} (hc : eLk pc M.2.2.2.2.2.2 = some (.lload j, tg)) (hp : pc + 2 = pc') (hl : eLk j lv = some (vL a)) (kk : eWp ox C M (pc', lv, vL a :: st, N, h, k, z) P) : eWp ox C M (pc, lv, st, N, h, k, z) P := by
  subst hp
  refine eWp.go ?_ kk
  rw [eStep_eq hc]
  simp only [eDo, hl]; rfl
theorem eW_istore (pc' : Nat) {j : Nat} {a : Int} (hc : eLk pc M.2.2.2.2.2.2 = some (.istore j, tg)) (hp : pc + 2 = pc') (lv' : eLv) (hm : Nat.ble (j + 1) M.2.2.2.1 = true) (hl : eP1 j (vI a) lv = lv') (kk : eWp ox C M (pc', lv', st, N, h, k, z) P) : eWp ox C M (pc, lv, vI a :: st, N, h, k, z) P := by
  subst hp
  refine eWp.go ?_ kk
  rw [eStep_eq hc]
  simp only [eDo, eSi, hm, hl]; rfl
theorem eW_astore (pc' : Nat) {j : Nat} {a : Nat} (hc : eLk pc M.2.2.2.2.2.2 = some (.astore j, tg)) (hp : pc + 2 = pc') (lv' : eLv) (hm : Nat.ble (j + 1) M.2.2.2.1 = true) (hl : eP1 j (.ref a) lv = lv') (kk : eWp ox C M (pc', lv', st, N, h, k, z) P) : eWp ox C M (pc, lv, .ref a :: st, N, h, k, z) P := by
  subst hp
  refine eWp.go ?_ kk
  rw [eStep_eq hc]
  simp only [eDo, eSa, hm, hl]; rfl
theorem eW_astore_out (pc' : Nat) {j : Nat} {a : Nat} (hc : eLk pc M.2.2.2.2.2.2 = some (.astore j, tg)) (hp : pc + 2 = pc') (lv' : eLv) (hm : Nat.ble (j + 1) M.2.2.2.1 = true) (hl : eP1 j (.retAddr a) lv = lv') (kk : eWp ox C M (pc', lv', st, N, h, k, z) P) : eWp ox C M (pc, lv, .retAddr a :: st, N, h, k, z) P := by
  subst hp
  refine eWp.go ?_ kk
  rw [eStep_eq hc]
  simp only [eDo, eSa, hm, hl]; rfl
theorem eW_lstore (pc' : Nat) {j : Nat} {a : Int} (hc : eLk pc M.2.2.2.2.2.2 = some (.lstore j, tg)) (hp : pc + 2 = pc') (lv' : eLv) (hm : Nat.ble (j + 2) M.2.2.2.1 = true) (hl : eP2 j (vL a) lv = lv') (kk : eWp ox C M (pc', lv', st, N, h, k, z) P) : eWp ox C M (pc, lv, vL a :: st, N, h, k, z) P := by
  subst hp
  refine eWp.go ?_ kk
  rw [eStep_eq hc]
  simp only [eDo, eSl, hm, hl]; rfl
theorem eW_iadd (pc' : Nat) {a b : Int} (hc : eLk pc M.2.2.2.2.2.2 = some (.iadd, tg)) (hp : pc + 1 = pc')  (kk : eWp ox C M (pc', lv, vI (a + b) :: st, N, h, k, z) P) : eWp ox C M (pc, lv, vI b :: vI a :: st, N, h, k, z) P := by
  subst hp
  refine eWp.go ?_ kk
  rw [eStep_eq hc]
  show eGo (pc + 1) lv (.int (Int32.ofInt a + Int32.ofInt b) :: st) N h k z = _
  rw [← Int32.ofInt_add]; rfl
theorem eW_ladd (pc' : Nat) {a b : Int} (hc : eLk pc M.2.2.2.2.2.2 = some (.ladd, tg)) (hp : pc + 1 = pc')  (kk : eWp ox C M (pc', lv, vL (a + b) :: st, N, h, k, z) P) : eWp ox C M (pc, lv, vL b :: vL a :: st, N, h, k, z) P := by
  subst hp
  refine eWp.go ?_ kk
  rw [eStep_eq hc]
  show eGo (pc + 1) lv (.long (Int64.ofInt a + Int64.ofInt b) :: st) N h k z = _
  rw [← Int64.ofInt_add]; rfl
theorem eW_isub (pc' : Nat) {a b : Int} (hc : eLk pc M.2.2.2.2.2.2 = some (.isub, tg)) (hp : pc + 1 = pc')  (kk : eWp ox C M (pc', lv, vI (a - b) :: st, N, h, k, z) P) : eWp ox C M (pc, lv, vI b :: vI a :: st, N, h, k, z) P := by
  subst hp
  refine eWp.go ?_ kk
  rw [eStep_eq hc]
  show eGo (pc + 1) lv (.int (Int32.ofInt a - Int32.ofInt b) :: st) N h k z = _
  rw [← Int32.ofInt_sub]; rfl
theorem eW_lsub (pc' : Nat) {a b : Int} (hc : eLk pc M.2.2.2.2.2.2 = some (.lsub, tg)) (hp : pc + 1 = pc')  (kk : eWp ox C M (pc', lv, vL (a - b) :: st, N, h, k, z) P) : eWp ox C M (pc, lv, vL b :: vL a :: st, N, h, k, z) P := by
  subst hp
  refine eWp.go ?_ kk
  rw [eStep_eq hc]
  show eGo (pc + 1) lv (.long (Int64.ofInt a - Int64.ofInt b) :: st) N h k z = _
  rw [← Int64.ofInt_sub]; rfl
theorem eW_imul (pc' : Nat) {a b : Int} (hc : eLk pc M.2.2.2.2.2.2 = some (.imul, tg)) (hp : pc + 1 = pc')  (kk : eWp ox C M (pc', lv, vI (a * b) :: st, N, h, k, z) P) : eWp ox C M (pc, lv, vI b :: vI a :: st, N, h, k, z) P := by
  subst hp
  refine eWp.go ?_ kk
  rw [eStep_eq hc]
  show eGo (pc + 1) lv (.int (Int32.ofInt a * Int32.ofInt b) :: st) N h k z = _
  rw [← Int32.ofInt_mul]; rfl
theorem eW_lmul (pc' : Nat) {a b : Int} (hc : eLk pc M.2.2.2.2.2.2 = some (.lmul, tg)) (hp : pc + 1 = pc')  (kk : eWp ox C M (pc', lv, vL (a * b) :: st, N, h, k, z) P) : eWp ox C M (pc, lv, vL b :: vL a :: st, N, h, k, z) P := by
  subst hp
  refine eWp.go ?_ kk
  rw [eStep_eq hc]
  show eGo (pc + 1) lv (.long (Int64.ofInt a * Int64.ofInt b) :: st) N h k z = _
  rw [← Int64.ofInt_mul]; rfl
theorem eW_ineg (pc' : Nat) {a : Int} (hc : eLk pc M.2.2.2.2.2.2 = some (.ineg, tg)) (hp : pc + 1 = pc')  (kk : eWp ox C M (pc', lv, vI (-a) :: st, N, h, k, z) P) : eWp ox C M (pc, lv, vI a :: st, N, h, k, z) P := by
  subst hp
  refine eWp.go ?_ kk
  rw [eStep_eq hc]
  show eGo (pc + 1) lv (.int (-Int32.ofInt a) :: st) N h k z = _
  rw [← Int32.ofInt_neg]; rfl
theorem eW_iand (pc' : Nat) {a b : Int} (hc : eLk pc M.2.2.2.2.2.2 = some (.iand, tg)) (hp : pc + 1 = pc') (x : Int) (hx : Int32.ofInt a &&& Int32.ofInt b = Int32.ofInt x) (kk : eWp ox C M (pc', lv, vI x :: st, N, h, k, z) P) : eWp ox C M (pc, lv, vI b :: vI a :: st, N, h, k, z) P := by
  subst hp
  refine eWp.go ?_ kk
  rw [eStep_eq hc]
  show eGo (pc + 1) lv (.int (Int32.ofInt a &&& Int32.ofInt b) :: st) N h k z = _
  rw [hx]; rfl
theorem eW_ior (pc' : Nat) {a b : Int} (hc : eLk pc M.2.2.2.2.2.2 = some (.ior, tg)) (hp : pc + 1 = pc') (x : Int) (hx : Int32.ofInt a ||| Int32.ofInt b = Int32.ofInt x) (kk : eWp ox C M (pc', lv, vI x :: st, N, h, k, z) P) : eWp ox C M (pc, lv, vI b :: vI a :: st, N, h, k, z) P := by
  subst hp
  refine eWp.go ?_ kk
  rw [eStep_eq hc]
  show eGo (pc + 1) lv (.int (Int32.ofInt a ||| Int32.ofInt b) :: st) N h k z = _
  rw [hx]; rfl
theorem eW_ixor (pc' : Nat) {a b : Int} (hc : eLk pc M.2.2.2.2.2.2 = some (.ixor, tg)) (hp : pc + 1 = pc') (x : Int) (hx : Int32.ofInt a ^^^ Int32.ofInt b = Int32.ofInt x) (kk : eWp ox C M (pc', lv, vI x :: st, N, h, k, z) P) : eWp ox C M (pc, lv, vI b :: vI a :: st, N, h, k, z) P := by
  subst hp
  refine eWp.go ?_ kk
  rw [eStep_eq hc]
  show eGo (pc + 1) lv (.int (Int32.ofInt a ^^^ Int32.ofInt b) :: st) N h k z = _
  rw [hx]; rfl
theorem eW_land (pc' : Nat) {a b : Int} (hc : eLk pc M.2.2.2.2.2.2 = some (.land, tg)) (hp : pc + 1 = pc') (x : Int) (hx : Int64.ofInt a &&& Int64.ofInt b = Int64.ofInt x) (kk : eWp ox C M (pc', lv, vL x :: st, N, h, k, z) P) : eWp ox C M (pc, lv, vL b :: vL a :: st, N, h, k, z) P := by
  subst hp
  refine eWp.go ?_ kk
  rw [eStep_eq hc]
  show eGo (pc + 1) lv (.long (Int64.ofInt a &&& Int64.ofInt b) :: st) N h k z = _
  rw [hx]; rfl
theorem eW_ishl (pc' : Nat) {a b : Int} (hc : eLk pc M.2.2.2.2.2.2 = some (.ishl, tg)) (hp : pc + 1 = pc') (x : Int) (hx : Int32.ofInt a <<< (Int32.ofInt b &&& 31) = Int32.ofInt x) (kk : eWp ox C M (pc', lv, vI x :: st, N, h, k, z) P) : eWp ox C M (pc, lv, vI b :: vI a :: st, N, h, k, z) P := by
  subst hp
  refine eWp.go ?_ kk
  rw [eStep_eq hc]
  show eGo (pc + 1) lv (.int (Int32.ofInt a <<< (Int32.ofInt b &&& 31)) :: st) N h k z = _
  rw [hx]; rfl
theorem eW_iushr (pc' : Nat) {a b : Int} (hc : eLk pc M.2.2.2.2.2.2 = some (.iushr, tg)) (hp : pc + 1 = pc') (x : Int) (hx : ((Int32.ofInt a).toUInt32 >>> ((Int32.ofInt b).toUInt32 &&& Int32.toUInt32 31)).toInt32 = Int32.ofInt x) (kk : eWp ox C M (pc', lv, vI x :: st, N, h, k, z) P) : eWp ox C M (pc, lv, vI b :: vI a :: st, N, h, k, z) P := by
  subst hp
  refine eWp.go ?_ kk
  rw [eStep_eq hc]
  show eGo (pc + 1) lv (.int ((Int32.ofInt a).toUInt32 >>> ((Int32.ofInt b).toUInt32 &&& Int32.toUInt32 31)).toInt32 :: st) N h k z = _
  rw [hx]; rfl
theorem eW_lshl (pc' : Nat) {a b : Int} (hc : eLk pc M.2.2.2.2.2.2 = some (.lshl, tg)) (hp : pc + 1 = pc') (x : Int) (hx : Int64.ofInt a <<< ((Int32.ofInt b).toInt64 &&& 63) = Int64.ofInt x) (kk : eWp ox C M (pc', lv, vL x :: st, N, h, k, z) P) : eWp ox C M (pc, lv, vI b :: vL a :: st, N, h, k, z) P := by
  subst hp
  refine eWp.go ?_ kk
  rw [eStep_eq hc]
  show eGo (pc + 1) lv (.long (Int64.ofInt a <<< ((Int32.ofInt b).toInt64 &&& 63)) :: st) N h k z = _
  rw [hx]; rfl
theorem eW_lcmp (pc' : Nat) {a b : Int} (hc : eLk pc M.2.2.2.2.2.2 = some (.lcmp, tg)) (hp : pc + 1 = pc') (x : Int) (hx : lg_cmp (Int64.ofInt a) (Int64.ofInt b) = Int32.ofInt x) (kk : eWp ox C M (pc', lv, vI x :: st, N, h, k, z) P) : eWp ox C M (pc, lv, vL b :: vL a :: st, N, h, k, z) P := by
  subst hp
  refine eWp.go ?_ kk
  rw [eStep_eq hc]
  show eGo (pc + 1) lv (.int (lg_cmp (Int64.ofInt a) (Int64.ofInt b)) :: st) N h k z = _
  rw [hx]; rfl
theorem eW_i2l (pc' : Nat) {a : Int} (hc : eLk pc M.2.2.2.2.2.2 = some (.i2l, tg)) (hp : pc + 1 = pc') (hi : i32 a) (kk : eWp ox C M (pc', lv, vL a :: st, N, h, k, z) P) : eWp ox C M (pc, lv, vI a :: st, N, h, k, z) P := by
  subst hp
  refine eWp.go ?_ kk
  rw [eStep_eq hc]
  show eGo (pc + 1) lv (.long (Int32.ofInt a).toInt64 :: st) N h k z = _
  rw [show (Int32.ofInt a).toInt64 = Int64.ofInt a from by rw [← Int64.ofInt_toInt (Int32.ofInt a).toInt64, Int32.toInt_toInt64, ofInt_toInt32 hi]]; rfl
theorem eW_i2b (pc' : Nat) {a : Int} (hc : eLk pc M.2.2.2.2.2.2 = some (.i2b, tg)) (hp : pc + 1 = pc') (x : Int) (hx : (Int32.ofInt a).toInt8.toInt32 = Int32.ofInt x) (kk : eWp ox C M (pc', lv, vI x :: st, N, h, k, z) P) : eWp ox C M (pc, lv, vI a :: st, N, h, k, z) P := by
  subst hp
  refine eWp.go ?_ kk
  rw [eStep_eq hc]
  show eGo (pc + 1) lv (.int (Int32.ofInt a).toInt8.toInt32 :: st) N h k z = _
  rw [hx]; rfl
theorem eW_i2c (pc' : Nat) {a : Int} (hc : eLk pc M.2.2.2.2.2.2 = some (.i2c, tg)) (hp : pc + 1 = pc') (x : Int) (hx : ((Int32.ofInt a).toUInt32 % 65536).toInt32 = Int32.ofInt x) (kk : eWp ox C M (pc', lv, vI x :: st, N, h, k, z) P) : eWp ox C M (pc, lv, vI a :: st, N, h, k, z) P := by
  subst hp
  refine eWp.go ?_ kk
  rw [eStep_eq hc]
  show eGo (pc + 1) lv (.int ((Int32.ofInt a).toUInt32 % 65536).toInt32 :: st) N h k z = _
  rw [hx]; rfl
theorem eW_idiv (pc' : Nat) {a b : Int} (hc : eLk pc M.2.2.2.2.2.2 = some (.idiv, tg)) (hp : pc + 1 = pc') (x : Int) (h0 : Int32.ofInt b ≠ 0) (hx : Int32.ofInt a / Int32.ofInt b = Int32.ofInt x) (kk : eWp ox C M (pc', lv, vI x :: st, N, h, k, z) P) : eWp ox C M (pc, lv, vI b :: vI a :: st, N, h, k, z) P := by
  subst hp
  refine eWp.go ?_ kk
  rw [eStep_eq hc]
  simp only [eDo, decide_eq_false h0, hx]; rfl
theorem eW_irem (pc' : Nat) {a b : Int} (hc : eLk pc M.2.2.2.2.2.2 = some (.irem, tg)) (hp : pc + 1 = pc') (x : Int) (h0 : Int32.ofInt b ≠ 0) (hx : Int32.ofInt a - Int32.ofInt a / Int32.ofInt b * Int32.ofInt b = Int32.ofInt x) (kk : eWp ox C M (pc', lv, vI x :: st, N, h, k, z) P) : eWp ox C M (pc, lv, vI b :: vI a :: st, N, h, k, z) P := by
  subst hp
  refine eWp.go ?_ kk
  rw [eStep_eq hc]
  simp only [eDo, decide_eq_false h0, hx]; rfl
theorem eW_iinc (pc' : Nat) {j : Nat} {n a : Int} (hc : eLk pc M.2.2.2.2.2.2 = some (.iinc j n, tg)) (hp : pc + 3 = pc') (lv' : eLv) (hj : eLk j lv = some (vI a)) (hm : Nat.ble (j + 1) M.2.2.2.1 = true) (hl : eP1 j (vI (a + n)) lv = lv') (kk : eWp ox C M (pc', lv', st, N, h, k, z) P) : eWp ox C M (pc, lv, st, N, h, k, z) P := by
  subst hp
  refine eWp.go ?_ kk
  rw [eStep_eq hc]
  have hl2 : eP1 j (.int (Int32.ofInt a + Int32.ofInt n)) lv = lv' := by rw [← Int32.ofInt_add]; exact hl
  simp only [eDo, hj, hm, hl2]; rfl
theorem eW_dup (pc' : Nat) {v : Value} (hc : eLk pc M.2.2.2.2.2.2 = some (.dup, tg)) (hp : pc + 1 = pc') (hv : Nat.beq v.category 1 = true) (kk : eWp ox C M (pc', lv, v :: v :: st, N, h, k, z) P) : eWp ox C M (pc, lv, v :: st, N, h, k, z) P := by
  subst hp
  refine eWp.go ?_ kk
  rw [eStep_eq hc]
  simp only [eDo, hv]; rfl
theorem eW_pop (pc' : Nat) {v : Value} (hc : eLk pc M.2.2.2.2.2.2 = some (.pop, tg)) (hp : pc + 1 = pc') (hv : Nat.beq v.category 1 = true) (kk : eWp ox C M (pc', lv, st, N, h, k, z) P) : eWp ox C M (pc, lv, v :: st, N, h, k, z) P := by
  subst hp
  refine eWp.go ?_ kk
  rw [eStep_eq hc]
  simp only [eDo, hv]; rfl
theorem eW_dup_x1 (pc' : Nat) {v w : Value} (hc : eLk pc M.2.2.2.2.2.2 = some (.dup_x1, tg)) (hp : pc + 1 = pc') (hv : (Nat.beq v.category 1 && Nat.beq w.category 1) = true) (kk : eWp ox C M (pc', lv, v :: w :: v :: st, N, h, k, z) P) : eWp ox C M (pc, lv, v :: w :: st, N, h, k, z) P := by
  subst hp
  refine eWp.go ?_ kk
  rw [eStep_eq hc]
  simp only [eDo, hv]; rfl
theorem eW_dup2 (pc' : Nat) {v w : Value} (hc : eLk pc M.2.2.2.2.2.2 = some (.dup2, tg)) (hp : pc + 1 = pc') (hv : (Nat.beq v.category 1 && Nat.beq w.category 1) = true) (kk : eWp ox C M (pc', lv, v :: w :: v :: w :: st, N, h, k, z) P) : eWp ox C M (pc, lv, v :: w :: st, N, h, k, z) P := by
  subst hp
  refine eWp.go ?_ kk
  rw [eStep_eq hc]
  simp only [eDo, hv]; rfl
theorem eW_getfield (pc' : Nat) {x a c j : Nat} {fs : List Value} {v : Value} (hc : eLk pc M.2.2.2.2.2.2 = some (.getfield x, tg)) (hp : pc + 3 = pc') (ha : Nat.ble (a + 1) N = true) (hf : eFld M.1 x = some (c, j)) (hh : h a = .inr (c, fs)) (hv : fs[j]? = some v) (hr : eN9 v = true ∧ ∀ i, v ≠ .retAddr i) (kk : eWp ox C M (pc', lv, v :: st, N, h, k, z) P) : eWp ox C M (pc, lv, .ref a :: st, N, h, k, z) P := by
  subst hp
  refine eWp.go ?_ kk
  rw [eStep_eq hc]
  simp only [eDo, eGet, ha, hf, hh, Nat.beq_refl, hv]
  cases v <;> first | rfl | exact absurd rfl (hr.2 _)
theorem eW_putfield (pc' : Nat) {x a c j : Nat} {fs : List Value} {v : Value} (fs' : List Value) (hc : eLk pc M.2.2.2.2.2.2 = some (.putfield x, tg)) (hp : pc + 3 = pc') (ha : Nat.ble (a + 1) N = true) (hf : eFld M.1 x = some (c, j)) (hh : h a = .inr (c, fs)) (hx : (Nat.ble (j + 1) fs.length && eFit (eTyp c j) v && eMay M c j) = true) (hs : fs.set j v = fs')
    (kk : ∀ h' : eHp, h' a = .inr (c, fs') → (∀ i, i ≠ a → h' i = h i) → eWp ox C M (pc', lv, st, N, h', k, z) P) : eWp ox C M (pc, lv, v :: .ref a :: st, N, h, k, z) P := by
  subst hp
  refine eWp.go ?_ (kk (va_up h a (.inr (c, fs.set j v))) (by rw [va_up_self, hs]) (fun i hi => va_up_ne _ _ hi))
  rw [eStep_eq hc]
  simp only [Bool.and_eq_true] at hx
  simp only [eDo, ePut, ha, hf, hh, Nat.beq_refl, hx.1.1, hx.1.2, hx.2, Bool.and_self]
  rfl
theorem eW_iaload (pc' : Nat) {a n : Nat} {i : Int} {f : Nat → Int32} (hc : eLk pc M.2.2.2.2.2.2 = some (.iaload, tg)) (hp : pc + 1 = pc') (x : Int) (ha : Nat.ble (a + 1) N = true)  (hh : h a = .inl (0, n, .inl f)) (h0 : 0 ≤ i) (h1 : i < n) (hi : i32 i) (hx : f i.toNat = Int32.ofInt x) (kk : eWp ox C M (pc', lv, vI x :: st, N, h, k, z) P) : eWp ox C M (pc, lv, vI i :: .ref a :: st, N, h, k, z) P := by
  subst hp
  refine eWp.go ?_ kk
  rw [eStep_eq hc]
  simp only [eDo, eAl, ha, hh, eIn_i h0 h1 hi, Nat.beq_refl, ofInt_nat32 hi, hx]
  rfl
theorem eW_baload (pc' : Nat) {a n : Nat} {i : Int} {f : Nat → Int32} (hc : eLk pc M.2.2.2.2.2.2 = some (.baload, tg)) (hp : pc + 1 = pc') (x : Int) (ha : Nat.ble (a + 1) N = true) {q : Nat} (hq : (Nat.beq q 2 || Nat.beq q 3) = true) (hh : h a = .inl (q, n, .inl f)) (h0 : 0 ≤ i) (h1 : i < n) (hi : i32 i) (hx : f i.toNat = Int32.ofInt x) (kk : eWp ox C M (pc', lv, vI x :: st, N, h, k, z) P) : eWp ox C M (pc, lv, vI i :: .ref a :: st, N, h, k, z) P := by
  subst hp
  refine eWp.go ?_ kk
  rw [eStep_eq hc]
  simp only [eDo, eAl, ha, hh, eIn_i h0 h1 hi, hq, ofInt_nat32 hi, hx]
  rfl
theorem eW_caload (pc' : Nat) {a n : Nat} {i : Int} {f : Nat → Int32} (hc : eLk pc M.2.2.2.2.2.2 = some (.caload, tg)) (hp : pc + 1 = pc') (x : Int) (ha : Nat.ble (a + 1) N = true)  (hh : h a = .inl (1, n, .inl f)) (h0 : 0 ≤ i) (h1 : i < n) (hi : i32 i) (hx : f i.toNat = Int32.ofInt x) (kk : eWp ox C M (pc', lv, vI x :: st, N, h, k, z) P) : eWp ox C M (pc, lv, vI i :: .ref a :: st, N, h, k, z) P := by
  subst hp
  refine eWp.go ?_ kk
  rw [eStep_eq hc]
  simp only [eDo, eAl, ha, hh, eIn_i h0 h1 hi, Nat.beq_refl, ofInt_nat32 hi, hx]
  rfl
theorem eW_laload (pc' : Nat) {a n : Nat} {i : Int} {f : Nat → Int64} (hc : eLk pc M.2.2.2.2.2.2 = some (.laload, tg)) (hp : pc + 1 = pc') (x : Int) (ha : Nat.ble (a + 1) N = true) (hh : h a = .inl (4, n, .inr (.inl f))) (h0 : 0 ≤ i) (h1 : i < n) (hi : i32 i) (hx : f i.toNat = Int64.ofInt x) (kk : eWp ox C M (pc', lv, vL x :: st, N, h, k, z) P) : eWp ox C M (pc, lv, vI i :: .ref a :: st, N, h, k, z) P := by
  subst hp
  refine eWp.go ?_ kk
  rw [eStep_eq hc]
  simp only [eDo, eAlL, ha, hh, eIn_i h0 h1 hi, ofInt_nat32 hi, hx]
  rfl
theorem eW_aaload (pc' : Nat) {a n b : Nat} {i : Int} {f : Nat → Option Nat} (hc : eLk pc M.2.2.2.2.2.2 = some (.aaload, tg)) (hp : pc + 1 = pc') (ha : Nat.ble (a + 1) N = true) (hh : h a = .inl (5, n, .inr (.inr (.inr (.inr f))))) (h0 : 0 ≤ i) (h1 : i < n) (hi : i32 i) (hx : f i.toNat = some b) (kk : eWp ox C M (pc', lv, .ref b :: st, N, h, k, z) P) : eWp ox C M (pc, lv, vI i :: .ref a :: st, N, h, k, z) P := by
  subst hp
  refine eWp.go ?_ kk
  rw [eStep_eq hc]
  simp only [eDo, eAlA, ha, hh, eIn_i h0 h1 hi, ofInt_nat32 hi, hx]
  rfl
theorem eW_iastore (pc' : Nat) {a n : Nat} {i x : Int} {F : Nat → Int} (hc : eLk pc M.2.2.2.2.2.2 = some (.iastore, tg)) (hp : pc + 1 = pc') (ha : Nat.ble (a + 1) N = true) (hh : h a = .inl (0, n, .inl (eIA F))) (h0 : 0 ≤ i) (h1 : i < n) (hi : i32 i) (hn : vp_nar .int (Int32.ofInt x) = Int32.ofInt x)
    (kk : ∀ h' : eHp, h' a = .inl (0, n, .inl (eIA (eUp F i.toNat x))) → (∀ i, i ≠ a → h' i = h i) → eWp ox C M (pc', lv, st, N, h', k, z) P) : eWp ox C M (pc, lv, vI x :: vI i :: .ref a :: st, N, h, k, z) P := by
  subst hp
  refine eWp.go ?_ (kk (va_up h a (.inl (0, n, .inl (upd (eIA F) i.toNat (Int32.ofInt x))))) (by rw [va_up_self, eIA_up]) (fun i hi => va_up_ne _ _ hi))
  rw [eStep_eq hc]
  simp only [eDo, eAs, ha, hh, eIn_i h0 h1 hi, ofInt_nat32 hi, hn]
  rfl
theorem eW_bastore (pc' : Nat) {a n : Nat} {i x : Int} {F : Nat → Int} (hc : eLk pc M.2.2.2.2.2.2 = some (.bastore, tg)) (hp : pc + 1 = pc') (ha : Nat.ble (a + 1) N = true) (hh : h a = .inl (2, n, .inl (eIA F))) (h0 : 0 ≤ i) (h1 : i < n) (hi : i32 i) (hn : vp_nar .boolean (Int32.ofInt x) = Int32.ofInt x)
    (kk : ∀ h' : eHp, h' a = .inl (2, n, .inl (eIA (eUp F i.toNat x))) → (∀ i, i ≠ a → h' i = h i) → eWp ox C M (pc', lv, st, N, h', k, z) P) : eWp ox C M (pc, lv, vI x :: vI i :: .ref a :: st, N, h, k, z) P := by
  subst hp
  refine eWp.go ?_ (kk (va_up h a (.inl (2, n, .inl (upd (eIA F) i.toNat (Int32.ofInt x))))) (by rw [va_up_self, eIA_up]) (fun i hi => va_up_ne _ _ hi))
  rw [eStep_eq hc]
  simp only [eDo, eAs, ha, hh, eIn_i h0 h1 hi, ofInt_nat32 hi, hn]
  rfl
theorem eW_castore (pc' : Nat) {a n : Nat} {i x : Int} {F : Nat → Int} (hc : eLk pc M.2.2.2.2.2.2 = some (.castore, tg)) (hp : pc + 1 = pc') (ha : Nat.ble (a + 1) N = true) (hh : h a = .inl (1, n, .inl (eIA F))) (h0 : 0 ≤ i) (h1 : i < n) (hi : i32 i) (hn : vp_nar .char (Int32.ofInt x) = Int32.ofInt x)
    (kk : ∀ h' : eHp, h' a = .inl (1, n, .inl (eIA (eUp F i.toNat x))) → (∀ i, i ≠ a → h' i = h i) → eWp ox C M (pc', lv, st, N, h', k, z) P) : eWp ox C M (pc, lv, vI x :: vI i :: .ref a :: st, N, h, k, z) P := by
  subst hp
  refine eWp.go ?_ (kk (va_up h a (.inl (1, n, .inl (upd (eIA F) i.toNat (Int32.ofInt x))))) (by rw [va_up_self, eIA_up]) (fun i hi => va_up_ne _ _ hi))
  rw [eStep_eq hc]
  simp only [eDo, eAs, ha, hh, eIn_i h0 h1 hi, ofInt_nat32 hi, hn]
  rfl
theorem eW_if_eq (pc' : Nat) {x : Int} {a : Int} (hc : eLk pc M.2.2.2.2.2.2 = some (.ifCond .eq x, tg)) (hp : pc + 3 = pc') (ha : i32 a) (k1 : a = 0 → eWp ox C M (tg, lv, st, N, h, k, z) P) (k2 : ¬ (a = 0) → eWp ox C M (pc', lv, st, N, h, k, z) P) : eWp ox C M (pc, lv, vI a :: st, N, h, k, z) P := by
  subst hp
  have hb : i32 0 := i32_zero
  by_cases hq : a = 0
  · refine eWp.go ?_ (k1 hq)
    rw [eStep_eq hc]
    have hd : eCmp .eq (Int32.ofInt a) 0 = true := decide_eq_true ((show Int32.ofInt a = Int32.ofInt 0 ↔ a = 0 from ofInt_inj32 ha hb).mpr hq)
    simp only [eDo, hd]; rfl
  · refine eWp.go ?_ (k2 hq)
    rw [eStep_eq hc]
    have hd : eCmp .eq (Int32.ofInt a) 0 = false := decide_eq_false (fun hz => hq ((show Int32.ofInt a = Int32.ofInt 0 ↔ a = 0 from ofInt_inj32 ha hb).mp hz))
    simp only [eDo, hd]; rfl
theorem eW_icmp_eq (pc' : Nat) {x : Int} {a b : Int} (hc : eLk pc M.2.2.2.2.2.2 = some (.if_icmp .eq x, tg)) (hp : pc + 3 = pc') (ha : i32 a) (hb : i32 b) (k1 : a = b → eWp ox C M (tg, lv, st, N, h, k, z) P) (k2 : ¬ (a = b) → eWp ox C M (pc', lv, st, N, h, k, z) P) : eWp ox C M (pc, lv, vI b :: vI a :: st, N, h, k, z) P := by
  subst hp
  by_cases hq : a = b
  · refine eWp.go ?_ (k1 hq)
    rw [eStep_eq hc]
    have hd : eCmp .eq (Int32.ofInt a) (Int32.ofInt b) = true := decide_eq_true ((show Int32.ofInt a = Int32.ofInt b ↔ a = b from ofInt_inj32 ha hb).mpr hq)
    simp only [eDo, hd]; rfl
  · refine eWp.go ?_ (k2 hq)
    rw [eStep_eq hc]
    have hd : eCmp .eq (Int32.ofInt a) (Int32.ofInt b) = false := decide_eq_false (fun hz => hq ((show Int32.ofInt a = Int32.ofInt b ↔ a = b from ofInt_inj32 ha hb).mp hz))
    simp only [eDo, hd]; rfl
theorem eW_if_ne (pc' : Nat) {x : Int} {a : Int} (hc : eLk pc M.2.2.2.2.2.2 = some (.ifCond .ne x, tg)) (hp : pc + 3 = pc') (ha : i32 a) (k1 : a ≠ 0 → eWp ox C M (tg, lv, st, N, h, k, z) P) (k2 : ¬ (a ≠ 0) → eWp ox C M (pc', lv, st, N, h, k, z) P) : eWp ox C M (pc, lv, vI a :: st, N, h, k, z) P := by
  subst hp
  have hb : i32 0 := i32_zero
  by_cases hq : a ≠ 0
  · refine eWp.go ?_ (k1 hq)
    rw [eStep_eq hc]
    have hd : eCmp .ne (Int32.ofInt a) 0 = true := decide_eq_true ((show Int32.ofInt a ≠ Int32.ofInt 0 ↔ a ≠ 0 from not_congr (ofInt_inj32 ha hb)).mpr hq)
    simp only [eDo, hd]; rfl
  · refine eWp.go ?_ (k2 hq)
    rw [eStep_eq hc]
    have hd : eCmp .ne (Int32.ofInt a) 0 = false := decide_eq_false (fun hz => hq ((show Int32.ofInt a ≠ Int32.ofInt 0 ↔ a ≠ 0 from not_congr (ofInt_inj32 ha hb)).mp hz))
    simp only [eDo, hd]; rfl
theorem eW_icmp_ne (pc' : Nat) {x : Int} {a b : Int} (hc : eLk pc M.2.2.2.2.2.2 = some (.if_icmp .ne x, tg)) (hp : pc + 3 = pc') (ha : i32 a) (hb : i32 b) (k1 : a ≠ b → eWp ox C M (tg, lv, st, N, h, k, z) P) (k2 : ¬ (a ≠ b) → eWp ox C M (pc', lv, st, N, h, k, z) P) : eWp ox C M (pc, lv, vI b :: vI a :: st, N, h, k, z) P := by
  subst hp
  by_cases hq : a ≠ b
  · refine eWp.go ?_ (k1 hq)
    rw [eStep_eq hc]
    have hd : eCmp .ne (Int32.ofInt a) (Int32.ofInt b) = true := decide_eq_true ((show Int32.ofInt a ≠ Int32.ofInt b ↔ a ≠ b from not_congr (ofInt_inj32 ha hb)).mpr hq)
    simp only [eDo, hd]; rfl
  · refine eWp.go ?_ (k2 hq)
    rw [eStep_eq hc]
    have hd : eCmp .ne (Int32.ofInt a) (Int32.ofInt b) = false := decide_eq_false (fun hz => hq ((show Int32.ofInt a ≠ Int32.ofInt b ↔ a ≠ b from not_congr (ofInt_inj32 ha hb)).mp hz))
    simp only [eDo, hd]; rfl
theorem eW_if_lt (pc' : Nat) {x : Int} {a : Int} (hc : eLk pc M.2.2.2.2.2.2 = some (.ifCond .lt x, tg)) (hp : pc + 3 = pc') (ha : i32 a) (k1 : a < 0 → eWp ox C M (tg, lv, st, N, h, k, z) P) (k2 : ¬ (a < 0) → eWp ox C M (pc', lv, st, N, h, k, z) P) : eWp ox C M (pc, lv, vI a :: st, N, h, k, z) P := by
  subst hp
  have hb : i32 0 := i32_zero
  by_cases hq : a < 0
  · refine eWp.go ?_ (k1 hq)
    rw [eStep_eq hc]
    have hd : eCmp .lt (Int32.ofInt a) 0 = true := decide_eq_true ((show Int32.ofInt a < Int32.ofInt 0 ↔ a < 0 from ofInt_lt32 ha hb).mpr hq)
    simp only [eDo, hd]; rfl
  · refine eWp.go ?_ (k2 hq)
    rw [eStep_eq hc]
    have hd : eCmp .lt (Int32.ofInt a) 0 = false := decide_eq_false (fun hz => hq ((show Int32.ofInt a < Int32.ofInt 0 ↔ a < 0 from ofInt_lt32 ha hb).mp hz))
    simp only [eDo, hd]; rfl
theorem eW_icmp_lt (pc' : Nat) {x : Int} {a b : Int} (hc : eLk pc M.2.2.2.2.2.2 = some (.if_icmp .lt x, tg)) (hp : pc + 3 = pc') (ha : i32 a) (hb : i32 b) (k1 : a < b → eWp ox C M (tg, lv, st, N, h, k, z) P) (k2 : ¬ (a < b) → eWp ox C M (pc', lv, st, N, h, k, z) P) : eWp ox C M (pc, lv, vI b :: vI a :: st, N, h, k, z) P := by
  subst hp
  by_cases hq : a < b
  · refine eWp.go ?_ (k1 hq)
    rw [eStep_eq hc]
    have hd : eCmp .lt (Int32.ofInt a) (Int32.ofInt b) = true := decide_eq_true ((show Int32.ofInt a < Int32.ofInt b ↔ a < b from ofInt_lt32 ha hb).mpr hq)
    simp only [eDo, hd]; rfl
  · refine eWp.go ?_ (k2 hq)
    rw [eStep_eq hc]
    have hd : eCmp .lt (Int32.ofInt a) (Int32.ofInt b) = false := decide_eq_false (fun hz => hq ((show Int32.ofInt a < Int32.ofInt b ↔ a < b from ofInt_lt32 ha hb).mp hz))
    simp only [eDo, hd]; rfl
theorem eW_if_ge (pc' : Nat) {x : Int} {a : Int} (hc : eLk pc M.2.2.2.2.2.2 = some (.ifCond .ge x, tg)) (hp : pc + 3 = pc') (ha : i32 a) (k1 : 0 ≤ a → eWp ox C M (tg, lv, st, N, h, k, z) P) (k2 : ¬ (0 ≤ a) → eWp ox C M (pc', lv, st, N, h, k, z) P) : eWp ox C M (pc, lv, vI a :: st, N, h, k, z) P := by
  subst hp
  have hb : i32 0 := i32_zero
  by_cases hq : 0 ≤ a
  · refine eWp.go ?_ (k1 hq)
    rw [eStep_eq hc]
    have hd : eCmp .ge (Int32.ofInt a) 0 = true := decide_eq_true ((show Int32.ofInt 0 ≤ Int32.ofInt a ↔ 0 ≤ a from ofInt_le32 hb ha).mpr hq)
    simp only [eDo, hd]; rfl
  · refine eWp.go ?_ (k2 hq)
    rw [eStep_eq hc]
    have hd : eCmp .ge (Int32.ofInt a) 0 = false := decide_eq_false (fun hz => hq ((show Int32.ofInt 0 ≤ Int32.ofInt a ↔ 0 ≤ a from ofInt_le32 hb ha).mp hz))
    simp only [eDo, hd]; rfl
theorem eW_icmp_ge (pc' : Nat) {x : Int} {a b : Int} (hc : eLk pc M.2.2.2.2.2.2 = some (.if_icmp .ge x, tg)) (hp : pc + 3 = pc') (ha : i32 a) (hb : i32 b) (k1 : b ≤ a → eWp ox C M (tg, lv, st, N, h, k, z) P) (k2 : ¬ (b ≤ a) → eWp ox C M (pc', lv, st, N, h, k, z) P) : eWp ox C M (pc, lv, vI b :: vI a :: st, N, h, k, z) P := by
  subst hp
  by_cases hq : b ≤ a
  · refine eWp.go ?_ (k1 hq)
    rw [eStep_eq hc]
    have hd : eCmp .ge (Int32.ofInt a) (Int32.ofInt b) = true := decide_eq_true ((show Int32.ofInt b ≤ Int32.ofInt a ↔ b ≤ a from ofInt_le32 hb ha).mpr hq)
    simp only [eDo, hd]; rfl
  · refine eWp.go ?_ (k2 hq)
    rw [eStep_eq hc]
    have hd : eCmp .ge (Int32.ofInt a) (Int32.ofInt b) = false := decide_eq_false (fun hz => hq ((show Int32.ofInt b ≤ Int32.ofInt a ↔ b ≤ a from ofInt_le32 hb ha).mp hz))
    simp only [eDo, hd]; rfl
theorem eW_if_gt (pc' : Nat) {x : Int} {a : Int} (hc : eLk pc M.2.2.2.2.2.2 = some (.ifCond .gt x, tg)) (hp : pc + 3 = pc') (ha : i32 a) (k1 : 0 < a → eWp ox C M (tg, lv, st, N, h, k, z) P) (k2 : ¬ (0 < a) → eWp ox C M (pc', lv, st, N, h, k, z) P) : eWp ox C M (pc, lv, vI a :: st, N, h, k, z) P := by
  subst hp
  have hb : i32 0 := i32_zero
  by_cases hq : 0 < a
  · refine eWp.go ?_ (k1 hq)
    rw [eStep_eq hc]
    have hd : eCmp .gt (Int32.ofInt a) 0 = true := decide_eq_true ((show Int32.ofInt 0 < Int32.ofInt a ↔ 0 < a from ofInt_lt32 hb ha).mpr hq)
    simp only [eDo, hd]; rfl
  · refine eWp.go ?_ (k2 hq)
    rw [eStep_eq hc]
    have hd : eCmp .gt (Int32.ofInt a) 0 = false := decide_eq_false (fun hz => hq ((show Int32.ofInt 0 < Int32.ofInt a ↔ 0 < a from ofInt_lt32 hb ha).mp hz))
    simp only [eDo, hd]; rfl
theorem eW_icmp_gt (pc' : Nat) {x : Int} {a b : Int} (hc : eLk pc M.2.2.2.2.2.2 = some (.if_icmp .gt x, tg)) (hp : pc + 3 = pc') (ha : i32 a) (hb : i32 b) (k1 : b < a → eWp ox C M (tg, lv, st, N, h, k, z) P) (k2 : ¬ (b < a) → eWp ox C M (pc', lv, st, N, h, k, z) P) : eWp ox C M (pc, lv, vI b :: vI a :: st, N, h, k, z) P := by
  subst hp
  by_cases hq : b < a
  · refine eWp.go ?_ (k1 hq)
    rw [eStep_eq hc]
    have hd : eCmp .gt (Int32.ofInt a) (Int32.ofInt b) = true := decide_eq_true ((show Int32.ofInt b < Int32.ofInt a ↔ b < a from ofInt_lt32 hb ha).mpr hq)
    simp only [eDo, hd]; rfl
  · refine eWp.go ?_ (k2 hq)
    rw [eStep_eq hc]
    have hd : eCmp .gt (Int32.ofInt a) (Int32.ofInt b) = false := decide_eq_false (fun hz => hq ((show Int32.ofInt b < Int32.ofInt a ↔ b < a from ofInt_lt32 hb ha).mp hz))
    simp only [eDo, hd]; rfl
theorem eW_if_le (pc' : Nat) {x : Int} {a : Int} (hc : eLk pc M.2.2.2.2.2.2 = some (.ifCond .le x, tg)) (hp : pc + 3 = pc') (ha : i32 a) (k1 : a ≤ 0 → eWp ox C M (tg, lv, st, N, h, k, z) P) (k2 : ¬ (a ≤ 0) → eWp ox C M (pc', lv, st, N, h, k, z) P) : eWp ox C M (pc, lv, vI a :: st, N, h, k, z) P := by
  subst hp
  have hb : i32 0 := i32_zero
  by_cases hq : a ≤ 0
  · refine eWp.go ?_ (k1 hq)
    rw [eStep_eq hc]
    have hd : eCmp .le (Int32.ofInt a) 0 = true := decide_eq_true ((show Int32.ofInt a ≤ Int32.ofInt 0 ↔ a ≤ 0 from ofInt_le32 ha hb).mpr hq)
    simp only [eDo, hd]; rfl
  · refine eWp.go ?_ (k2 hq)
    rw [eStep_eq hc]
    have hd : eCmp .le (Int32.ofInt a) 0 = false := decide_eq_false (fun hz => hq ((show Int32.ofInt a ≤ Int32.ofInt 0 ↔ a ≤ 0 from ofInt_le32 ha hb).mp hz))
    simp only [eDo, hd]; rfl
theorem eW_icmp_le (pc' : Nat) {x : Int} {a b : Int} (hc : eLk pc M.2.2.2.2.2.2 = some (.if_icmp .le x, tg)) (hp : pc + 3 = pc') (ha : i32 a) (hb : i32 b) (k1 : a ≤ b → eWp ox C M (tg, lv, st, N, h, k, z) P) (k2 : ¬ (a ≤ b) → eWp ox C M (pc', lv, st, N, h, k, z) P) : eWp ox C M (pc, lv, vI b :: vI a :: st, N, h, k, z) P := by
  subst hp
  by_cases hq : a ≤ b
  · refine eWp.go ?_ (k1 hq)
    rw [eStep_eq hc]
    have hd : eCmp .le (Int32.ofInt a) (Int32.ofInt b) = true := decide_eq_true ((show Int32.ofInt a ≤ Int32.ofInt b ↔ a ≤ b from ofInt_le32 ha hb).mpr hq)
    simp only [eDo, hd]; rfl
  · refine eWp.go ?_ (k2 hq)
    rw [eStep_eq hc]
    have hd : eCmp .le (Int32.ofInt a) (Int32.ofInt b) = false := decide_eq_false (fun hz => hq ((show Int32.ofInt a ≤ Int32.ofInt b ↔ a ≤ b from ofInt_le32 ha hb).mp hz))
    simp only [eDo, hd]; rfl
def eCp (F G : Nat → Int) (sp dp n : Nat) : Nat → Int := fun j => if dp ≤ j ∧ j < dp + n then F (sp + (j - dp)) else G j
/-- System.arraycopy of ints -/
theorem eW_copy (pc' : Nat) {x cn na a b n1 n0 : Nat} {M' : eM} {F G : Nat → Int} {sp dp n : Int} (hc : eLk pc M.2.2.2.2.2.2 = some (.invokestatic x, tg)) (hp : pc + 3 = pc') (hm : eMth M.1 x = some (8, cn, na, M')) (ha : Nat.ble (a + 1) N = true) (hb : Nat.ble (b + 1) N = true) (hr : eRm st = true) (hha : h a = .inl (0, n1, .inl (eIA G))) (hhb : h b = .inl (0, n0, .inl (eIA F))) (hsp : 0 ≤ sp ∧ i32 sp) (hdp : 0 ≤ dp ∧ i32 dp) (hn : 0 ≤ n ∧ i32 n) (h0 : sp + n ≤ n0) (h1 : dp + n ≤ n1)
    (kk : ∀ h' : eHp, h' a = .inl (0, n1, .inl (eIA (eCp F G sp.toNat dp.toNat n.toNat))) → (∀ i, i ≠ a → h' i = h i) → eWp ox C M (pc', lv, st, N, h', k, z) P) : eWp ox C M (pc, lv, vI n :: vI dp :: .ref a :: vI sp :: .ref b :: st, N, h, k, z) P := by
  subst hp
  have e0 : va_cpy (eIA F) (eIA G) sp.toNat dp.toNat n.toNat = eIA (eCp F G sp.toNat dp.toNat n.toNat) := by
    funext j
    unfold va_cpy eIA eCp
    split <;> rfl
  refine eWp.go ?_ (kk (va_up h a (.inl (0, n1, .inl (va_cpy (eIA F) (eIA G) sp.toNat dp.toNat n.toNat)))) (by rw [va_up_self, e0]) (fun i hi => va_up_ne _ _ hi))
  rw [eStep_eq hc]
  have s1 : ∀ {y : Int}, 0 ≤ y ∧ i32 y → decide (Int32.ofInt y < 0) = false := by
    intro y hy
    refine decide_eq_false ?_
    rw [show (0 : Int32) = Int32.ofInt 0 from rfl, ofInt_lt32 hy.2 i32_zero]; omega
  have s2 : Nat.ble (sp.toNat + n.toNat) n0 = true := Nat.ble_eq_true_of_le (by omega)
  have s3 : Nat.ble (dp.toNat + n.toNat) n1 = true := Nat.ble_eq_true_of_le (by omega)
  simp only [eDo, eInv, hm, eCopy, ha, hb, hr, Bool.and_self, hha, hhb, Nat.beq_refl, s1 hsp, s1 hdp, s1 hn, ofInt_nat32 hsp.2, ofInt_nat32 hdp.2, ofInt_nat32 hn.2, s2, s3, Bool.not_false, eFitR]
  rfl
def gMax (a b : Int) : Int := match decide (a < b) with | true => b | false => a
theorem eW_max (pc' : Nat) {x cn na : Nat} {M' : eM} {a b : Int} (hc : eLk pc M.2.2.2.2.2.2 = some (.invokestatic x, tg)) (hp : pc + 3 = pc') (hm : eMth M.1 x = some (9, cn, na, M')) (hr : eRm st = true) (ha : i32 a) (hb : i32 b) (kk : eWp ox C M (pc', lv, vI (gMax a b) :: st, N, h, k, z) P) : eWp ox C M (pc, lv, vI b :: vI a :: st, N, h, k, z) P := by
  subst hp
  refine eWp.go ?_ kk
  rw [eStep_eq hc]
  have e0 : (if Int32.ofInt a < Int32.ofInt b then Int32.ofInt b else Int32.ofInt a) = Int32.ofInt (gMax a b) := by
    unfold gMax
    by_cases h : a < b
    · rw [if_pos ((ofInt_lt32 ha hb).mpr h), decide_eq_true h]
    · rw [if_neg (fun h9 => h ((ofInt_lt32 ha hb).mp h9)), decide_eq_false h]
  simp only [eDo, eInv, hm, hr]
  rw [e0]; rfl
/-- the locals in another order, without some numbers -/
theorem eW_re (lv' : eLv) (h1 : eNd lv' = true) (h2 : eNd lv = true) (h4 : ∀ q ∈ lv', eLk q.1 lv = some q.2) (h5 : ∀ q ∈ lv, eLk q.1 lv' = some q.2 ∨ ∃ x, q.2 = .int x) (kk : eWp ox C M (pc, lv', st, N, h, k, z) P) : eWp ox C M (pc, lv, st, N, h, k, z) P := by
  obtain ⟨q, a, b⟩ := kk
  exact ⟨q, eRn_lr (c := (pc, lv', st, N, h, k, z)) ⟨rfl, ⟨h1, h2, fun j v hj => h4 _ (eLk_mem hj), fun j v hj => h5 _ (eLk_mem hj)⟩, rfl⟩ a, b⟩
theorem eW_goto {x : Int} (hc : eLk pc M.2.2.2.2.2.2 = some (.goto x, tg)) (kk : eWp ox C M (tg, lv, st, N, h, k, z) P) : eWp ox C M (pc, lv, st, N, h, k, z) P := by
  refine eWp.go ?_ kk
  rw [eStep_eq hc]; rfl
theorem eW_ifnull (pc' : Nat) {x : Int} {a : Nat} (hc : eLk pc M.2.2.2.2.2.2 = some (.ifnull x, tg)) (hp : pc + 3 = pc') (kk : eWp ox C M (pc', lv, st, N, h, k, z) P) : eWp ox C M (pc, lv, .ref a :: st, N, h, k, z) P := by
  subst hp
  refine eWp.go ?_ kk
  rw [eStep_eq hc]; rfl
theorem eW_lookup (t : Nat) {d : Int} {ps : Array (Int × Int)} {a : Int} (hc : eLk pc M.2.2.2.2.2.2 = some (.lookupswitch d ps, tg)) (ht : eSwL pc d ps (Int32.ofInt a) = .ofNat t) (kk : eWp ox C M (t, lv, st, N, h, k, z) P) : eWp ox C M (pc, lv, vI a :: st, N, h, k, z) P := by
  refine eWp.go ?_ kk
  rw [eStep_eq hc]
  simp only [eDo, ht]; rfl
theorem eW_table (t : Nat) {d lo hi : Int} {offs : Array Int} {a : Int} (hc : eLk pc M.2.2.2.2.2.2 = some (.tableswitch d lo hi offs, tg)) (ht : eSwT pc d lo hi offs (Int32.ofInt a) = .ofNat t) (kk : eWp ox C M (t, lv, st, N, h, k, z) P) : eWp ox C M (pc, lv, vI a :: st, N, h, k, z) P := by
  refine eWp.go ?_ kk
  rw [eStep_eq hc]
  simp only [eDo, ht]; rfl
theorem eW_ret_i {a : Int} {ty : FieldType} (hc : eLk pc M.2.2.2.2.2.2 = some (.ireturn, tg)) (hr : M.2.2.2.2.1 = some ty) (hty : (ty = .int ∨ (ty = .boolean ∧ vp_nar .boolean (Int32.ofInt a) = Int32.ofInt a) ∨ (ty = .char ∧ vp_nar .char (Int32.ofInt a) = Int32.ofInt a))) (hp : P (.inl (some (vI a)), N, h, k, z)) : eWp ox C M (pc, lv, [vI a], N, h, k, z) P := by
  refine eW_end ?_ hp
  unfold eEnd
  rw [eStep_eq hc]
  rcases hty with h1 | ⟨h1, h2⟩ | ⟨h1, h2⟩
  · subst h1; simp only [eDo, hr]
  · subst h1; simp only [eDo, hr, h2, decide_true]
  · subst h1; simp only [eDo, hr, h2, decide_true]
theorem eW_ret_l {a : Int} (hc : eLk pc M.2.2.2.2.2.2 = some (.lreturn, tg)) (hr : M.2.2.2.2.1 = some .long) (hp : P (.inl (some (vL a)), N, h, k, z)) : eWp ox C M (pc, lv, [vL a], N, h, k, z) P := by
  refine eW_end ?_ hp
  unfold eEnd
  rw [eStep_eq hc]
  simp only [eDo, hr]
theorem eW_ret_a {a : Nat} {x : String} (hc : eLk pc M.2.2.2.2.2.2 = some (.areturn, tg)) (hr : M.2.2.2.2.1 = some (.object x)) (hp : P (.inl (some (.ref a)), N, h, k, z)) : eWp ox C M (pc, lv, [.ref a], N, h, k, z) P := by
  refine eW_end ?_ hp
  unfold eEnd
  rw [eStep_eq hc]
  simp only [eDo, hr]
theorem eW_ret (hc : eLk pc M.2.2.2.2.2.2 = some (.return_, tg)) (hr : M.2.2.2.2.1 = none) (hp : P (.inl none, N, h, k, z)) : eWp ox C M (pc, lv, [], N, h, k, z) P := by
  refine eW_end ?_ hp
  unfold eEnd
  rw [eStep_eq hc]
  simp only [eDo, hr]
/-- an exception that leaves -/
theorem eW_throw {x : Nat} {E : String} (hc : eLk pc M.2.2.2.2.2.2 = some (.new x, tg)) (h1 : eLk x (eNewL M.1) = none) (h2 : eLk x (eExcL M.1) = some E) (hr : eRm st = true) (hp : P (.inr E, N, h, k + 1, z + 6)) : eWp ox C M (pc, lv, st, N, h, k, z) P := by
  refine eW_end ?_ hp
  unfold eEnd
  rw [eStep_eq hc]
  simp only [eDo, h1, h2, hr]
/-- a call that makes nothing -/
theorem eW_callG (pc' : Nat) {kd idx : Nat} {M' : eM} {args : List Value} {lv1 : eLv} {r : List Value} {PC : eR → Prop} (hs : eStep ox M (pc, lv, st, N, h, k, z) = some (.inr (.inr (kd, idx, M', args, lv1, r)))) (hp : pc + 3 = pc') (hcall : ∃ q, C M' args N h q ∧ PC q)
    (kk : ∀ q, PC q → ∃ v h', q = (.inl v, N, h', 0, 0) ∧ v.toList.all eN9 = true ∧ eWp ox C M (pc', lv1, v.toList ++ r, N, h', k, z) P) : eWp ox C M (pc, lv, st, N, h, k, z) P := by
  subst hp
  obtain ⟨q, h1, h2⟩ := hcall
  obtain ⟨v, h', rfl, h9, q2, h3, h4⟩ := kk q h2
  refine ⟨q2, eRn.call hs h1 (c' := (pc + 3, lv1, v.toList ++ r, N, h', k, z)) ?_ h3, h4⟩
  simp only [eBack, Nat.beq_refl, Bool.true_or, h9]
  rfl
theorem eS_callV {x cn na a : Nat} {M' : eM} {fs : List Value} (hc : eLk pc M.2.2.2.2.2.2 = some (.invokevirtual x, tg)) (hm : eMth M.1 x = some (0, cn, na, M')) (hr : st[na]? = some (.ref a)) (ha : Nat.ble (a + 1) N = true) (hh : h a = .inr (cn, fs)) (h9 : (eRm (st.drop (na + 1)) && (st.take (na + 1)).all eN9) = true) : eStep ox M (pc, lv, st, N, h, k, z) = some (.inr (.inr (0, x, M', (st.take (na + 1)).reverse, lv, st.drop (na + 1)))) := by
  rw [eStep_eq hc]
  simp only [Bool.and_eq_true] at h9
  simp only [eDo, hm, eInv, eRcv, hr, ha, hh, Nat.beq_refl, h9.1, h9.2, Bool.and_self]
theorem eS_callS {x cn na kd : Nat} {M' : eM} (hc : eLk pc M.2.2.2.2.2.2 = some (.invokestatic x, tg)) (hm : eMth M.1 x = some (kd, cn, na, M')) (hk : kd = 1 ∨ kd = 4) (h9 : (Nat.ble na st.length && eRm (st.drop na) && (st.take na).all eN9) = true) : eStep ox M (pc, lv, st, N, h, k, z) = some (.inr (.inr (kd, x, M', (st.take na).reverse, lv, st.drop na))) := by
  rw [eStep_eq hc]
  rcases hk with rfl | rfl <;> simp only [eDo, hm, eInv, h9]
/-- a call that leaves all as it is -/
theorem eW_callV (pc' : Nat) {x cn na a : Nat} {M' : eM} {fs : List Value} {v : Option Value} (args : List Value) (r r2 : List Value) (hc : eLk pc M.2.2.2.2.2.2 = some (.invokevirtual x, tg)) (hp : pc + 3 = pc') (hm : eMth M.1 x = some (0, cn, na, M')) (hr : st[na]? = some (.ref a)) (ha : Nat.ble (a + 1) N = true) (hh : h a = .inr (cn, fs)) (h9 : (eRm (st.drop (na + 1)) && (st.take (na + 1)).all eN9) = true) (hargs : (st.take (na + 1)).reverse = args) (hrest : st.drop (na + 1) = r)
    (hcall : ∃ q, C M' args N h q ∧ eRet v N h q) (hv9 : v.toList.all eN9 = true) (hr2 : v.toList ++ r = r2) (kk : eWp ox C M (pc', lv, r2, N, h, k, z) P) : eWp ox C M (pc, lv, st, N, h, k, z) P := by
  subst hargs; subst hrest; subst hr2
  exact eW_callG pc' (eS_callV hc hm hr ha hh h9) hp hcall (fun q hq => ⟨v, h, hq, hv9, kk⟩)
theorem eW_callS (pc' : Nat) {x cn na kd : Nat} {M' : eM} {v : Option Value} (args : List Value) (r r2 : List Value) (hc : eLk pc M.2.2.2.2.2.2 = some (.invokestatic x, tg)) (hp : pc + 3 = pc') (hm : eMth M.1 x = some (kd, cn, na, M')) (hk : kd = 1 ∨ kd = 4) (h9 : (Nat.ble na st.length && eRm (st.drop na) && (st.take na).all eN9) = true) (hargs : (st.take na).reverse = args) (hrest : st.drop na = r)
    (hcall : ∃ q, C M' args N h q ∧ eRet v N h q) (hv9 : v.toList.all eN9 = true) (hr2 : v.toList ++ r = r2) (kk : eWp ox C M (pc', lv, r2, N, h, k, z) P) : eWp ox C M (pc, lv, st, N, h, k, z) P := by
  subst hargs; subst hrest; subst hr2
  exact eW_callG pc' (eS_callS hc hm hk h9) hp hcall (fun q hq => ⟨v, h, hq, hv9, kk⟩)
/-- a call that changes the heap -/
theorem eW_callVH (pc' : Nat) {x cn na a : Nat} {M' : eM} {fs : List Value} {v : Option Value} {F : eHp → Prop} (args : List Value) (r r2 : List Value) (hc : eLk pc M.2.2.2.2.2.2 = some (.invokevirtual x, tg)) (hp : pc + 3 = pc') (hm : eMth M.1 x = some (0, cn, na, M')) (hr : st[na]? = some (.ref a)) (ha : Nat.ble (a + 1) N = true) (hh : h a = .inr (cn, fs)) (h9 : (eRm (st.drop (na + 1)) && (st.take (na + 1)).all eN9) = true) (hargs : (st.take (na + 1)).reverse = args) (hrest : st.drop (na + 1) = r)
    (hcall : ∃ q, C M' args N h q ∧ ∃ h', q = (.inl v, N, h', 0, 0) ∧ F h') (hv9 : v.toList.all eN9 = true) (hr2 : v.toList ++ r = r2) (kk : ∀ h', F h' → eWp ox C M (pc', lv, r2, N, h', k, z) P) : eWp ox C M (pc, lv, st, N, h, k, z) P := by
  subst hargs; subst hrest; subst hr2
  exact eW_callG pc' (eS_callV hc hm hr ha hh h9) hp hcall (fun q ⟨h', hq, hF⟩ => ⟨v, h', hq, hv9, kk h' hF⟩)
/-- a call whose result is one of many -/
theorem eW_callVX (pc' : Nat) {α : Type} (R : α → Prop) (v : α → Value) {x cn na a : Nat} {M' : eM} {fs : List Value} (args : List Value) (r : List Value) (hc : eLk pc M.2.2.2.2.2.2 = some (.invokevirtual x, tg)) (hp : pc + 3 = pc') (hm : eMth M.1 x = some (0, cn, na, M')) (hr : st[na]? = some (.ref a)) (ha : Nat.ble (a + 1) N = true) (hh : h a = .inr (cn, fs)) (h9 : (eRm (st.drop (na + 1)) && (st.take (na + 1)).all eN9) = true) (hargs : (st.take (na + 1)).reverse = args) (hrest : st.drop (na + 1) = r)
    (hcall : ∃ q, C M' args N h q ∧ ∃ y, R y ∧ eRet (some (v y)) N h q) (hv9 : ∀ y, eN9 (v y) = true) (kk : ∀ y, R y → eWp ox C M (pc', lv, v y :: r, N, h, k, z) P) : eWp ox C M (pc, lv, st, N, h, k, z) P := by
  subst hargs; subst hrest
  refine eW_callG pc' (eS_callV hc hm hr ha hh h9) hp hcall (fun q hq => ?_)
  obtain ⟨y, h1, h2⟩ := hq
  exact ⟨some (v y), h, h2, by show (eN9 (v y) && true) = true; rw [hv9 y]; rfl, kk y h1⟩
end WP
