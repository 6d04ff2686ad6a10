/-! rows for what is made, and stretches of new cells -/
section WPN
variable {ox : Nat → Option (Nat × Nat × (Nat → Int32))} {C : eM → List Value → Nat → eHp → eR → Prop} {M : eM} {P : eR → Prop} {pc tg : Nat} {lv : eLv} {st : List Value} {N : Nat} {h : eHp} {k z : Nat}
theorem eClA_of (h1 : (eClL N lv && st.all (eClV N)) = true) (h2 : eClH N h = true) : eClA N lv st h = true := by
  unfold eClA
  rw [h1, h2]; rfl
theorem eW_newO (pc' : Nat) {x c : Nat} (fs : List Value) (hc : eLk pc M.2.2.2.2.2.2 = some (.new x, tg)) (hp : pc + 3 = pc') (h1 : eLk x (eNewL M.1) = some c) (hfs : eDfl c = fs) (hcl : eClA N lv st h = true) (kk : ∀ h' : eHp, h' N = .inr (c, fs) → (∀ i, i ≠ N → h' i = h i) → eWp ox C M (pc', lv, .ref N :: st, N + 1, h', k + 1, z + eNum c) P) : eWp ox C M (pc, lv, st, N, h, k, z) P := by
  subst hp; subst hfs
  refine eWp.go ?_ (kk (va_up h N (.inr (c, eDfl c))) (by rw [va_up_self]) (fun i hi => va_up_ne _ _ hi))
  rw [eStep_eq hc]
  simp only [eDo, h1, eMk, hcl]
  rfl
theorem eW_newX (pc' : Nat) {t : ArrayType} {n : Int} (q : Nat) (x : (Nat → Int32) ⊕ (Nat → Int64) ⊕ (Nat → UInt32) ⊕ (Nat → UInt64) ⊕ (Nat → Option Nat)) (hc : eLk pc M.2.2.2.2.2.2 = some (.newarray t, tg)) (hp : pc + 2 = pc') (ht : ∀ st, eDo ox M (.newarray t) tg pc lv st N h k z = eNwa q x (pc + 2) lv st N h k z) (hn : 0 ≤ n ∧ n ≤ 65536) (hcl : eClA N lv st h = true)
    (kk : ∀ h' : eHp, h' N = .inl (q, n.toNat, x) → (∀ i, i ≠ N → h' i = h i) → eWp ox C M (pc', lv, .ref N :: st, N + 1, h', k + 1, z + n.toNat) P) : eWp ox C M (pc, lv, vI n :: st, N, h, k, z) P := by
  subst hp
  have hi : i32 n := by unfold i32; omega
  refine eWp.go ?_ (kk (va_up h N (.inl (q, n.toNat, x))) (by rw [va_up_self]) (fun i hi => va_up_ne _ _ hi))
  rw [eStep_eq hc, ht]
  have s1 : decide (Int32.ofInt n < 0) = false := by
    refine decide_eq_false ?_
    rw [show (0 : Int32) = Int32.ofInt 0 from rfl, ofInt_lt32 hi i32_zero]; omega
  have s2 : Nat.ble n.toNat 65536 = true := Nat.ble_eq_true_of_le (by omega)
  simp only [eNwa, s1, ofInt_nat32 hi, s2, Bool.not_false, Bool.and_self, eMk, hcl]
  rfl
theorem eW_anew (pc' : Nat) {n : Int} {y : Nat} {w : String} (hc : eLk pc M.2.2.2.2.2.2 = some (.anewarray y, tg)) (hp : pc + 3 = pc') (hy : eLk y (eAnwL M.1) = some w) (hn : 0 ≤ n ∧ n ≤ 65536) (hcl : eClA N lv st h = true)
    (kk : ∀ h' : eHp, h' N = .inl (5, n.toNat, .inr (.inr (.inr (.inr (fun _ => none))))) → (∀ i, i ≠ N → h' i = h i) → eWp ox C M (pc', lv, .ref N :: st, N + 1, h', k + 1, z + n.toNat) P) : eWp ox C M (pc, lv, vI n :: st, N, h, k, z) P := by
  subst hp
  have hi : i32 n := by unfold i32; omega
  refine eWp.go ?_ (kk (va_up h N (.inl (5, n.toNat, .inr (.inr (.inr (.inr (fun _ => none))))))) (by rw [va_up_self]) (fun i hi => va_up_ne _ _ hi))
  rw [eStep_eq hc]
  have s1 : decide (Int32.ofInt n < 0) = false := by
    refine decide_eq_false ?_
    rw [show (0 : Int32) = Int32.ofInt 0 from rfl, ofInt_lt32 hi i32_zero]; omega
  have s2 : Nat.ble n.toNat 65536 = true := Nat.ble_eq_true_of_le (by omega)
  simp only [eDo, hy, eNwa, s1, ofInt_nat32 hi, s2, Bool.not_false, Bool.and_self, eMk, hcl]
  rfl
theorem eW_aastore (pc' : Nat) {a b n : Nat} {i : Int} {f : Nat → Option Nat} {fs : List Value} (hc : eLk pc M.2.2.2.2.2.2 = some (.aastore, tg)) (hp : pc + 1 = pc') (ha : Nat.ble (a + 1) N = true) (hb : Nat.ble (b + 1) N = true) (hhb : h b = .inr (4, fs)) (hh : h a = .inl (5, n, .inr (.inr (.inr (.inr f))))) (h0 : 0 ≤ i) (h1 : i < n) (hi : i32 i)
    (kk : ∀ h' : eHp, h' a = .inl (5, n, .inr (.inr (.inr (.inr (va_up f i.toNat (some b)))))) → (∀ i, i ≠ a → h' i = h i) → eWp ox C M (pc', lv, st, N, h', k, z) P) : eWp ox C M (pc, lv, .ref b :: vI i :: .ref a :: st, N, h, k, z) P := by
  subst hp
  refine eWp.go ?_ (kk (va_up h a (.inl (5, n, .inr (.inr (.inr (.inr (va_up f i.toNat (some b)))))))) (by rw [va_up_self]) (fun i hi => va_up_ne _ _ hi))
  rw [eStep_eq hc]
  simp only [eDo, eAsA, ha, hb, hhb, hh, eIn_i h0 h1 hi, ofInt_nat32 hi]
  rfl
theorem eW_objInit (pc' : Nat) {x cn na a : Nat} {M' : eM} (hc : eLk pc M.2.2.2.2.2.2 = some (.invokespecial x, tg)) (hp : pc + 3 = pc') (hm : eMth M.1 x = some (7, cn, na, M')) (hr : eRm st = true) (kk : eWp ox C M (pc', lv, st, N, h, k, z) P) : eWp ox C M (pc, lv, .ref a :: st, N, h, k, z) P := by
  subst hp
  refine eWp.go ?_ kk
  rw [eStep_eq hc]
  simp only [eDo, eInv, hm, hr]
  rfl
theorem eS_callI {x cn na kd a : Nat} {M' : eM} (hc : eLk pc M.2.2.2.2.2.2 = some (.invokespecial x, tg)) (hm : eMth M.1 x = some (kd, cn, na, M')) (hk : kd = 2 ∨ kd = 3) (hr : st[na]? = some (.ref a)) (ha : Nat.ble (a + 1) N = true) (h9 : (eRm (st.drop (na + 1)) && (st.take (na + 1)).all eN9) = true) : eStep ox M (pc, lv, st, N, h, k, z) = some (.inr (.inr (kd, x, M', (st.take (na + 1)).reverse, lv, st.drop (na + 1)))) := by
  rw [eStep_eq hc]
  simp only [Bool.and_eq_true] at h9
  rcases hk with rfl | rfl <;> simp only [eDo, hm, eInv, eRcvA, hr, ha, h9.1, h9.2, Bool.and_self]
end WPN
/-- a stretch of cells from a on -/
def hSeg (h : eHp) (a : Nat) (cs : List va_E) : Prop := ∀ j e, cs[j]? = some e → h (a + j) = e
theorem seg_new {h h' : eHp} {a N : Nat} {cs : List va_E} {e : va_E} (hs : hSeg h a cs) (hN : N = a + cs.length) (h1 : h' N = e) (o : ∀ i, i ≠ N → h' i = h i) : hSeg h' a (cs ++ [e]) := by
  intro j e9 hj
  by_cases e0 : j < cs.length
  · rw [List.getElem?_append_left e0] at hj
    rw [o _ (by omega)]
    exact hs j e9 hj
  · have e1 : j = cs.length := by
      rw [List.getElem?_append_right (by omega)] at hj
      have : j - cs.length < [e].length := (List.getElem?_eq_some_iff.mp hj).1
      simp only [List.length_cons, List.length_nil] at this
      omega
    subst e1
    rw [List.getElem?_append_right (Nat.le_refl _), Nat.sub_self] at hj
    cases hj
    rw [← hN]; exact h1
theorem seg_put {h h' : eHp} {a b : Nat} {cs : List va_E} {e : va_E} (j : Nat) (hs : hSeg h a cs) (hb : b = a + j) (h1 : h' b = e) (o : ∀ i, i ≠ b → h' i = h i) : hSeg h' a (cs.set j e) := by
  intro i e9 hi
  by_cases e0 : i = j
  · subst e0
    rw [List.getElem?_set] at hi
    rw [if_pos rfl] at hi
    split at hi
    · cases hi; rw [← hb]; exact h1
    · cases hi
  · rw [List.getElem?_set, if_neg (fun h9 => e0 h9.symm)] at hi
    rw [o _ (by omega)]
    exact hs i e9 hi
theorem seg_app {h h' : eHp} {a a' : Nat} {cs ds : List va_E} (hs : hSeg h a cs) (ha : a' = a + cs.length) (hd : hSeg h' a' ds) (o : ∀ i, i < a' → h' i = h i) : hSeg h' a (cs ++ ds) := by
  intro j e9 hj
  by_cases e0 : j < cs.length
  · rw [List.getElem?_append_left e0] at hj
    rw [o _ (by omega)]
    exact hs j e9 hj
  · rw [List.getElem?_append_right (by omega)] at hj
    have := hd _ _ hj
    rw [show a + j = a' + (j - cs.length) by omega]
    exact this
/-- a constructor, called on the newest name a: it makes the cells cs from a on -/
def cC (a : Nat) (cs : List va_E) (k z : Nat) (h : eHp) : eR → Prop := fun q => ∃ h', q = (.inl none, a + cs.length, h', k, z) ∧ hSeg h' a cs ∧ (∀ i, i < a → h' i = h i) ∧ eClH (a + cs.length) h' = true
theorem cC_M {C : eM → List Value → Nat → eHp → eR → Prop} {M : eM} {args : List Value} {N a k z : Nat} {h : eHp} {cs : List va_E} (n : Nat) (hn : a + cs.length = n) (kk : ∃ q, C M args N h q ∧ cC a cs k z h q) : ∃ q, C M args N h q ∧ ∃ v9 N9 h9 a9 b9, q = (.inl v9, N9, h9, a9, b9) ∧ v9.toList.all eN9 = true ∧ (none = v9 ∧ n = N9 ∧ k = a9 ∧ z = b9 ∧ hSeg h9 a cs ∧ (∀ i, i < a → h9 i = h i) ∧ eClH n h9 = true) := by
  subst hn
  obtain ⟨q, h1, h', e, p⟩ := kk
  exact ⟨q, h1, none, _, h', k, z, e, rfl, rfl, rfl, rfl, rfl, p⟩
def cGd (a : Nat) : List va_E := [.inr (4, [.ref (a + 1), .ref (a + 2), .ref (a + 3), vI 0, vI 0, vI 0, vI 0, vI 0]), .inl (0, 40, .inl (eIA fun _ => 0)), .inl (0, 6, .inl (eIA fun _ => 0)), .inl (0, 8, .inl (eIA fun _ => 0))]
