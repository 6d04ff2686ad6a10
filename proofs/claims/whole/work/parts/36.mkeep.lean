/-! the model's changes -/
theorem eW_callSH {ox : Nat → Option (Nat × Nat × (Nat → Int32))} {C : eM → List Value → Nat → eHp → eR → Prop} {M : eM} {P : eR → Prop} {pc tg : Nat} {lv : eLv} {st : List Value} {N : Nat} {h : eHp} {k z : Nat} (pc' : Nat) {x cn na kd : Nat} {M' : eM} {v : Option Value} {F : eHp → Prop} (args : List Value) (r r2 : List Value) (hc : eLk pc M.2.2.2.2.2.2 = some (.invokestatic x, tg)) (hp : pc + 3 = pc') (hm : eMth M.1 x = some (kd, cn, na, M')) (hk : kd = 1 ∨ kd = 4) (h9 : (Nat.ble na st.length && eRm (st.drop na) && (st.take na).all eN9) = true) (hargs : (st.take na).reverse = args) (hrest : st.drop na = r)
    (hcall : ∃ q, C M' args N h q ∧ ∃ h', q = (.inl v, N, h', 0, 0) ∧ F h') (hv9 : v.toList.all eN9 = true) (hr2 : v.toList ++ r = r2) (kk : ∀ h', F h' → eWp ox C M (pc', lv, r2, N, h', k, z) P) : eWp ox C M (pc, lv, st, N, h, k, z) P := by
  subst hargs; subst hrest; subst hr2
  exact eW_callG pc' (eS_callS hc hm hk h9) hp hcall (fun q ⟨h', hq, hF⟩ => ⟨v, h', hq, hv9, kk h' hF⟩)
theorem eCp_step {F G : Nat → Int} {at9 on9 k : Int} (h1 : 0 ≤ at9) (h2 : 0 ≤ on9) (h3 : 0 ≤ k) : eUp (eCp F G at9.toNat on9.toNat k.toNat) (on9 + k).toNat (F (at9 + k).toNat) = eCp F G at9.toNat on9.toNat (k + 1).toNat := by
  funext j
  unfold eUp eCp
  by_cases hj : j = (on9 + k).toNat
  · rw [if_pos hj, if_pos (by omega), show at9.toNat + (j - on9.toNat) = (at9 + k).toNat by omega]
  · rw [if_neg hj]
    by_cases h : on9.toNat ≤ j ∧ j < on9.toNat + k.toNat
    · rw [if_pos h, if_pos (by omega)]
    · rw [if_neg h, if_neg (by omega)]
theorem eCp_0 {F G : Nat → Int} {a b : Nat} : eCp F G a b 0 = G := by
  funext j
  unfold eCp
  rw [if_neg (by omega)]
theorem m_copies_l {d N k z : Nat} {h0 : eHp} {P : eR → Prop} {a b n0 n1 : Nat} {F D : Nat → Int} {x y : Int} (ha : a + 1 ≤ N) (hb : b + 1 ≤ N) (hne : a ≠ b) (hx : 0 ≤ x ∧ x + 62 ≤ n0) (hy : 0 ≤ y ∧ y + 62 ≤ n1) (hn : n0 ≤ 1000 ∧ n1 ≤ 1000) : ∀ (m9 : Nat) (k9 : Int) (D9 : Nat → Int) (h : eHp), 62 - k9 ≤ m9 → 0 ≤ k9 ∧ k9 ≤ 62 → D9 = eCp F D x.toNat y.toNat k9.toNat → h a = .inl (0, n1, .inl (eIA D9)) → h b = .inl (0, n0, .inl (eIA F)) → (∀ i, i ≠ a → h i = h0 i) → (∀ (h : eHp), h a = .inl (0, n1, .inl (eIA (eCp F D x.toNat y.toNat 62))) → (∀ i, i ≠ a → h i = h0 i) → eWp eOx (eEv (d + 0)) eM_X7_copies (28, [(0, .ref b), (1, vI x), (2, .ref a), (3, vI y)], [], N, h, k, z) P) → eWp eOx (eEv (d + 0)) eM_X7_copies (3, [(0, .ref b), (1, vI x), (2, .ref a), (3, vI y), (4, vI k9)], [], N, h, k, z) P := by
  intro m9
  induction m9 with
  | zero =>
    intro k9 D9 h hm9 q0 q1 q2 q3 q4 kk
    refine eW_iload 5 rfl rfl rfl ?_
    refine eW_bipush 7 rfl rfl 62 rfl ?_
    refine eW_icmp_ge 10 rfl rfl (by unfold i32; omega) (by unfold i32; omega) (fun c1 => ?_) (fun c1 => ?_)
    · refine eW_re [(0, .ref b), (1, vI x), (2, .ref a), (3, vI y)] rfl rfl (List.forall_mem_cons.mpr ⟨rfl, List.forall_mem_cons.mpr ⟨rfl, List.forall_mem_cons.mpr ⟨rfl, List.forall_mem_cons.mpr ⟨rfl, fun _ h => absurd h List.not_mem_nil⟩⟩⟩⟩) (List.forall_mem_cons.mpr ⟨Or.inl rfl, List.forall_mem_cons.mpr ⟨Or.inl rfl, List.forall_mem_cons.mpr ⟨Or.inl rfl, List.forall_mem_cons.mpr ⟨Or.inl rfl, List.forall_mem_cons.mpr ⟨Or.inr ⟨_, rfl⟩, fun _ h => absurd h List.not_mem_nil⟩⟩⟩⟩⟩) ?_
      refine kk h ?_ q4
      rw [q2, q1, show k9.toNat = 62 by omega]
    · refine eW_aload_n 11 rfl rfl rfl ?_
      refine eW_iload_n 12 rfl rfl rfl ?_
      refine eW_iload 14 rfl rfl rfl ?_
      refine eW_iadd 15 rfl rfl ?_
      refine eW_aload_n 16 rfl rfl rfl ?_
      refine eW_iload_n 17 rfl rfl rfl ?_
      refine eW_iload 19 rfl rfl rfl ?_
      refine eW_iadd 20 rfl rfl ?_
      refine eW_iaload 21 rfl rfl (F (x + k9).toNat) (Nat.ble_eq_true_of_le (by omega)) q3 (by omega) (by omega) (by unfold i32; omega) rfl ?_
      refine eW_iastore 22 rfl rfl (Nat.ble_eq_true_of_le (by omega)) q2 (by omega) (by omega) (by unfold i32; omega) rfl ?_
      intro h2 eh2 oh2
      have bh2 : h2 b = .inl (0, n0, .inl (eIA F)) := (oh2 b (Ne.symm hne)).trans q3
      refine eW_iinc 25 rfl rfl [(4, vI (k9 + 1)), (0, .ref b), (1, vI x), (2, .ref a), (3, vI y)] rfl rfl rfl ?_
      refine eW_goto rfl ?_
      refine eW_re [(0, .ref b), (1, vI x), (2, .ref a), (3, vI y), (4, vI (k9 + 1))] rfl rfl (List.forall_mem_cons.mpr ⟨rfl, List.forall_mem_cons.mpr ⟨rfl, List.forall_mem_cons.mpr ⟨rfl, List.forall_mem_cons.mpr ⟨rfl, List.forall_mem_cons.mpr ⟨rfl, fun _ h => absurd h List.not_mem_nil⟩⟩⟩⟩⟩) (List.forall_mem_cons.mpr ⟨Or.inl rfl, List.forall_mem_cons.mpr ⟨Or.inl rfl, List.forall_mem_cons.mpr ⟨Or.inl rfl, List.forall_mem_cons.mpr ⟨Or.inl rfl, List.forall_mem_cons.mpr ⟨Or.inl rfl, fun _ h => absurd h List.not_mem_nil⟩⟩⟩⟩⟩) ?_
      exact absurd hm9 (by omega)
  | succ m9 ih =>
    intro k9 D9 h hm9 q0 q1 q2 q3 q4 kk
    refine eW_iload 5 rfl rfl rfl ?_
    refine eW_bipush 7 rfl rfl 62 rfl ?_
    refine eW_icmp_ge 10 rfl rfl (by unfold i32; omega) (by unfold i32; omega) (fun c1 => ?_) (fun c1 => ?_)
    · refine eW_re [(0, .ref b), (1, vI x), (2, .ref a), (3, vI y)] rfl rfl (List.forall_mem_cons.mpr ⟨rfl, List.forall_mem_cons.mpr ⟨rfl, List.forall_mem_cons.mpr ⟨rfl, List.forall_mem_cons.mpr ⟨rfl, fun _ h => absurd h List.not_mem_nil⟩⟩⟩⟩) (List.forall_mem_cons.mpr ⟨Or.inl rfl, List.forall_mem_cons.mpr ⟨Or.inl rfl, List.forall_mem_cons.mpr ⟨Or.inl rfl, List.forall_mem_cons.mpr ⟨Or.inl rfl, List.forall_mem_cons.mpr ⟨Or.inr ⟨_, rfl⟩, fun _ h => absurd h List.not_mem_nil⟩⟩⟩⟩⟩) ?_
      refine kk h ?_ q4
      rw [q2, q1, show k9.toNat = 62 by omega]
    · refine eW_aload_n 11 rfl rfl rfl ?_
      refine eW_iload_n 12 rfl rfl rfl ?_
      refine eW_iload 14 rfl rfl rfl ?_
      refine eW_iadd 15 rfl rfl ?_
      refine eW_aload_n 16 rfl rfl rfl ?_
      refine eW_iload_n 17 rfl rfl rfl ?_
      refine eW_iload 19 rfl rfl rfl ?_
      refine eW_iadd 20 rfl rfl ?_
      refine eW_iaload 21 rfl rfl (F (x + k9).toNat) (Nat.ble_eq_true_of_le (by omega)) q3 (by omega) (by omega) (by unfold i32; omega) rfl ?_
      refine eW_iastore 22 rfl rfl (Nat.ble_eq_true_of_le (by omega)) q2 (by omega) (by omega) (by unfold i32; omega) rfl ?_
      intro h2 eh2 oh2
      have bh2 : h2 b = .inl (0, n0, .inl (eIA F)) := (oh2 b (Ne.symm hne)).trans q3
      refine eW_iinc 25 rfl rfl [(4, vI (k9 + 1)), (0, .ref b), (1, vI x), (2, .ref a), (3, vI y)] rfl rfl rfl ?_
      refine eW_goto rfl ?_
      refine eW_re [(0, .ref b), (1, vI x), (2, .ref a), (3, vI y), (4, vI (k9 + 1))] rfl rfl (List.forall_mem_cons.mpr ⟨rfl, List.forall_mem_cons.mpr ⟨rfl, List.forall_mem_cons.mpr ⟨rfl, List.forall_mem_cons.mpr ⟨rfl, List.forall_mem_cons.mpr ⟨rfl, fun _ h => absurd h List.not_mem_nil⟩⟩⟩⟩⟩) (List.forall_mem_cons.mpr ⟨Or.inl rfl, List.forall_mem_cons.mpr ⟨Or.inl rfl, List.forall_mem_cons.mpr ⟨Or.inl rfl, List.forall_mem_cons.mpr ⟨Or.inl rfl, List.forall_mem_cons.mpr ⟨Or.inl rfl, fun _ h => absurd h List.not_mem_nil⟩⟩⟩⟩⟩) ?_
      refine ih (k9 + 1) _ h2 (by omega) (by omega) ?_ eh2 bh2 (fun i hi => (oh2 i hi).trans (q4 i hi)) kk
      rw [q1, eCp_step hx.1 hy.1 q0.1]
theorem m_copies {d N : Nat} {h : eHp} {a b n0 n1 : Nat} {F D : Nat → Int} {x y : Int} (ha : a + 1 ≤ N) (hb : b + 1 ≤ N) (hne : a ≠ b) (hha : h a = .inl (0, n1, .inl (eIA D))) (hhb : h b = .inl (0, n0, .inl (eIA F))) (hx : 0 ≤ x ∧ x + 62 ≤ n0) (hy : 0 ≤ y ∧ y + 62 ≤ n1) (hn : n0 ≤ 1000 ∧ n1 ≤ 1000) : eSp (d + 1) eM_X7_copies [.ref b, vI x, .ref a, vI y] N h (eChg none N (fun h' => h' a = .inl (0, n1, .inl (eIA (eCp F D x.toNat y.toNat 62))) ∧ ∀ i, i ≠ a → h' i = h i)) := by
  refine eSp_of [(0, .ref b), (1, vI x), (2, .ref a), (3, vI y)] rfl rfl ?_
  refine eW_iconst 1 rfl rfl ?_
  refine eW_istore 3 rfl rfl [(4, vI 0), (0, .ref b), (1, vI x), (2, .ref a), (3, vI y)] rfl rfl ?_
  refine eW_re [(0, .ref b), (1, vI x), (2, .ref a), (3, vI y), (4, vI 0)] rfl rfl (List.forall_mem_cons.mpr ⟨rfl, List.forall_mem_cons.mpr ⟨rfl, List.forall_mem_cons.mpr ⟨rfl, List.forall_mem_cons.mpr ⟨rfl, List.forall_mem_cons.mpr ⟨rfl, fun _ h => absurd h List.not_mem_nil⟩⟩⟩⟩⟩) (List.forall_mem_cons.mpr ⟨Or.inl rfl, List.forall_mem_cons.mpr ⟨Or.inl rfl, List.forall_mem_cons.mpr ⟨Or.inl rfl, List.forall_mem_cons.mpr ⟨Or.inl rfl, List.forall_mem_cons.mpr ⟨Or.inl rfl, fun _ h => absurd h List.not_mem_nil⟩⟩⟩⟩⟩) ?_
  refine m_copies_l (h0 := h) (D := D) ha hb hne hx hy hn _ 0 D h (Int.self_le_toNat _) (by omega) (eCp_0).symm hha hhb (fun _ _ => rfl) (fun h2 e1 e2 => ?_)
  refine eW_ret rfl rfl ?_
  exact ⟨h2, rfl, e1, e2⟩
theorem m_comes {d N : Nat} {h : eHp} {s : Nat → Int} {A : Nat → Nat → Int} (hm : mM h s A) (hN : 75 ≤ N) {n x : Int} (h0 : A 0 0 = n) (hn : 0 ≤ n ∧ n < 40) : eSp (d + 1) eM_X7_comes [.ref 63, vI x] N h (eChg (some (vI (n + 1 - 1))) N (mD h s (mUp A 0 (eUp (eUp (A 0) (22 + n).toNat x) 0 (n + 1))))) := by
  refine eSp_of [(0, .ref 63), (1, vI x)] rfl rfl ?_
  refine eW_aload_n 1 rfl rfl rfl ?_
  refine eW_getfield 4 rfl rfl (Nat.ble_eq_true_of_le (by omega)) rfl hm.1 rfl ⟨rfl, fun _ h9 => nomatch h9⟩ ?_
  refine eW_bipush 6 rfl rfl 22 rfl ?_
  refine eW_aload_n 7 rfl rfl rfl ?_
  refine eW_getfield 10 rfl rfl (Nat.ble_eq_true_of_le (by omega)) rfl hm.1 rfl ⟨rfl, fun _ h9 => nomatch h9⟩ ?_
  refine eW_iconst 11 rfl rfl ?_
  refine eW_iaload 12 rfl rfl n (Nat.ble_eq_true_of_le (by omega)) (show h 64 = .inl (0, 62, .inl (eIA (A 0))) from hm.2.1) (by omega) (by omega) (by unfold i32; omega) (congrArg Int32.ofInt h0) ?_
  refine eW_iadd 13 rfl rfl ?_
  refine eW_iload_n 14 rfl rfl rfl ?_
  refine eW_iastore 15 rfl rfl (Nat.ble_eq_true_of_le (by omega)) (show h 64 = .inl (0, 62, .inl (eIA (A 0))) from hm.2.1) (by omega) (by omega) (by unfold i32; omega) rfl ?_
  intro h1 eh1 oh1
  have hmh1 : mM h1 s (mUp A 0 (eUp (A 0) (22 + n).toNat x)) := mM_0 hm eh1 oh1 ⟨rfl, rfl, rfl, rfl, rfl, rfl, rfl, rfl⟩
  have frh1 : mFr h h1 := mFr_a (fun _ _ => rfl) (by decide) oh1
  refine eW_aload_n 16 rfl rfl rfl ?_
  refine eW_getfield 19 rfl rfl (Nat.ble_eq_true_of_le (by omega)) rfl hmh1.1 rfl ⟨rfl, fun _ h9 => nomatch h9⟩ ?_
  refine eW_iconst 20 rfl rfl ?_
  refine eW_dup2 21 rfl rfl rfl ?_
  refine eW_iaload 22 rfl rfl n (Nat.ble_eq_true_of_le (by omega)) (show h1 64 = .inl (0, 62, .inl (eIA (eUp (A 0) (22 + n).toNat x))) from hmh1.2.1) (by omega) (by omega) (by unfold i32; omega) (congrArg Int32.ofInt (Eq.trans (eUp_ne (by omega)) h0)) ?_
  refine eW_iconst 23 rfl rfl ?_
  refine eW_iadd 24 rfl rfl ?_
  refine eW_iastore 25 rfl rfl (Nat.ble_eq_true_of_le (by omega)) (show h1 64 = .inl (0, 62, .inl (eIA (eUp (A 0) (22 + n).toNat x))) from hmh1.2.1) (by omega) (by omega) (by unfold i32; omega) rfl ?_
  intro h2 eh2 oh2
  have hmh2 : mM h2 s (mUp A 0 (eUp (eUp (A 0) (22 + n).toNat x) 0 (n + 1))) := mM_0 hmh1 eh2 oh2 ⟨rfl, rfl, rfl, rfl, rfl, rfl, rfl, rfl⟩
  have frh2 : mFr h h2 := mFr_a frh1 (by decide) oh2
  refine eW_aload_n 26 rfl rfl rfl ?_
  refine eW_getfield 29 rfl rfl (Nat.ble_eq_true_of_le (by omega)) rfl hmh2.1 rfl ⟨rfl, fun _ h9 => nomatch h9⟩ ?_
  refine eW_iconst 30 rfl rfl ?_
  refine eW_iaload 31 rfl rfl (n + 1) (Nat.ble_eq_true_of_le (by omega)) (show h2 64 = .inl (0, 62, .inl (eIA (eUp (eUp (A 0) (22 + n).toNat x) 0 (n + 1)))) from hmh2.2.1) (by omega) (by omega) (by unfold i32; omega) (congrArg Int32.ofInt (eUp_eq rfl)) ?_
  refine eW_iconst 32 rfl rfl ?_
  refine eW_isub 33 rfl rfl ?_
  refine eW_ret_i rfl rfl (Or.inl rfl) ?_
  exact ⟨_, rfl, hmh2, frh2⟩
/-- the kept rows behind a keep -/
def kU (ch : Int) (K R : Nat → Int) (ch' : Int) (K' : Nat → Int) : Prop := (ch = 8 → ch' = 8 ∧ (∀ i j : Nat, i < 7 → j < 62 → K' (62 * i + j) = K (62 * (i + 1) + j)) ∧ ∀ j : Nat, j < 62 → K' (62 * 7 + j) = R j) ∧ (ch < 8 → ch' = ch + 1 ∧ (∀ i j : Nat, (i : Int) < ch → j < 62 → K' (62 * i + j) = K (62 * i + j)) ∧ ∀ j : Nat, j < 62 → K' (62 * ch.toNat + j) = R j)
def kP (s6 ch : Int) (K R : Nat → Int) (ch' : Int) (K' : Nat → Int) : Prop := (s6 = 1 → ch' = ch ∧ K' = K) ∧ (s6 = 0 → kU ch K R ch' K')
theorem eCp_in {F G : Nat → Int} {a b n j : Nat} (h : b ≤ j ∧ j < b + n) : eCp F G a b n j = F (a + (j - b)) := by unfold eCp; rw [if_pos h]
theorem eCp_out {F G : Nat → Int} {a b n j : Nat} (h : ¬ (b ≤ j ∧ j < b + n)) : eCp F G a b n j = G j := by unfold eCp; rw [if_neg h]
theorem m_keeps_l {d N k z : Nat} {h0 : eHp} {s : Nat → Int} {A : Nat → Nat → Int} (hN : 75 ≤ N) {P : eR → Prop} {r : Nat} : ∀ (m9 : Nat) (c : Int) (K : Nat → Int) (h : eHp), 434 - c ≤ m9 → 0 ≤ c ∧ c ≤ 434 → mM h s (mUp A 1 K) → mFr h0 h → (∀ j : Nat, (j : Int) < c → K j = A 1 (j + 62)) → (∀ j : Nat, c ≤ (j : Int) → K j = A 1 j) → (∀ (K : Nat → Int) (h : eHp), mM h s (mUp A 1 K) → mFr h0 h → (∀ j : Nat, j < 434 → K j = A 1 (j + 62)) → eWp eOx (eEv (d + 1)) eM_X7_keeps (52, [(0, .ref 63), (1, .ref r)], [], N, h, k, z) P) → eWp eOx (eEv (d + 1)) eM_X7_keeps (24, [(0, .ref 63), (1, .ref r), (2, vI c)], [], N, h, k, z) P := by
  intro m9
  induction m9 with
  | zero =>
    intro c K h hm9 q0 q1 q2 q3 q4 kk
    refine eW_iload_n 25 rfl rfl rfl ?_
    refine eW_sipush 28 rfl rfl 434 rfl ?_
    refine eW_icmp_ge 31 rfl rfl (by unfold i32; omega) (by unfold i32; omega) (fun c1 => ?_) (fun c1 => ?_)
    · refine eW_re [(0, .ref 63), (1, .ref r)] rfl rfl (List.forall_mem_cons.mpr ⟨rfl, List.forall_mem_cons.mpr ⟨rfl, fun _ h => absurd h List.not_mem_nil⟩⟩) (List.forall_mem_cons.mpr ⟨Or.inl rfl, List.forall_mem_cons.mpr ⟨Or.inl rfl, List.forall_mem_cons.mpr ⟨Or.inr ⟨_, rfl⟩, fun _ h => absurd h List.not_mem_nil⟩⟩⟩) ?_
      exact kk K h q1 q2 (fun j hj => q3 j (by omega))
    · refine eW_aload_n 32 rfl rfl rfl ?_
      refine eW_getfield 35 rfl rfl (Nat.ble_eq_true_of_le (by omega)) rfl q1.1 rfl ⟨rfl, fun _ h9 => nomatch h9⟩ ?_
      refine eW_iload_n 36 rfl rfl rfl ?_
      refine eW_aload_n 37 rfl rfl rfl ?_
      refine eW_getfield 40 rfl rfl (Nat.ble_eq_true_of_le (by omega)) rfl q1.1 rfl ⟨rfl, fun _ h9 => nomatch h9⟩ ?_
      refine eW_iload_n 41 rfl rfl rfl ?_
      refine eW_bipush 43 rfl rfl 62 rfl ?_
      refine eW_iadd 44 rfl rfl ?_
      refine eW_iaload 45 rfl rfl (K (c + 62).toNat) (Nat.ble_eq_true_of_le (by omega)) (show h 65 = .inl (0, 496, .inl (eIA K)) from q1.2.2.1) (by omega) (by omega) (by unfold i32; omega) rfl ?_
      refine eW_iastore 46 rfl rfl (Nat.ble_eq_true_of_le (by omega)) (show h 65 = .inl (0, 496, .inl (eIA K)) from q1.2.2.1) (by omega) (by omega) (by unfold i32; omega) rfl ?_
      intro h2 eh2 oh2
      have hmh2 : mM h2 s (mUp A 1 (eUp K c.toNat (K (c + 62).toNat))) := mM_1 q1 eh2 oh2 ⟨rfl, rfl, rfl, rfl, rfl, rfl, rfl, rfl⟩
      have frh2 : mFr h0 h2 := mFr_a q2 (by decide) oh2
      refine eW_iinc 49 rfl rfl [(2, vI (c + 1)), (0, .ref 63), (1, .ref r)] rfl rfl rfl ?_
      refine eW_goto rfl ?_
      refine eW_re [(0, .ref 63), (1, .ref r), (2, vI (c + 1))] rfl rfl (List.forall_mem_cons.mpr ⟨rfl, List.forall_mem_cons.mpr ⟨rfl, List.forall_mem_cons.mpr ⟨rfl, fun _ h => absurd h List.not_mem_nil⟩⟩⟩) (List.forall_mem_cons.mpr ⟨Or.inl rfl, List.forall_mem_cons.mpr ⟨Or.inl rfl, List.forall_mem_cons.mpr ⟨Or.inl rfl, fun _ h => absurd h List.not_mem_nil⟩⟩⟩) ?_
      exact absurd hm9 (by omega)
  | succ m9 ih =>
    intro c K h hm9 q0 q1 q2 q3 q4 kk
    refine eW_iload_n 25 rfl rfl rfl ?_
    refine eW_sipush 28 rfl rfl 434 rfl ?_
    refine eW_icmp_ge 31 rfl rfl (by unfold i32; omega) (by unfold i32; omega) (fun c1 => ?_) (fun c1 => ?_)
    · refine eW_re [(0, .ref 63), (1, .ref r)] rfl rfl (List.forall_mem_cons.mpr ⟨rfl, List.forall_mem_cons.mpr ⟨rfl, fun _ h => absurd h List.not_mem_nil⟩⟩) (List.forall_mem_cons.mpr ⟨Or.inl rfl, List.forall_mem_cons.mpr ⟨Or.inl rfl, List.forall_mem_cons.mpr ⟨Or.inr ⟨_, rfl⟩, fun _ h => absurd h List.not_mem_nil⟩⟩⟩) ?_
      exact kk K h q1 q2 (fun j hj => q3 j (by omega))
    · refine eW_aload_n 32 rfl rfl rfl ?_
      refine eW_getfield 35 rfl rfl (Nat.ble_eq_true_of_le (by omega)) rfl q1.1 rfl ⟨rfl, fun _ h9 => nomatch h9⟩ ?_
      refine eW_iload_n 36 rfl rfl rfl ?_
      refine eW_aload_n 37 rfl rfl rfl ?_
      refine eW_getfield 40 rfl rfl (Nat.ble_eq_true_of_le (by omega)) rfl q1.1 rfl ⟨rfl, fun _ h9 => nomatch h9⟩ ?_
      refine eW_iload_n 41 rfl rfl rfl ?_
      refine eW_bipush 43 rfl rfl 62 rfl ?_
      refine eW_iadd 44 rfl rfl ?_
      refine eW_iaload 45 rfl rfl (K (c + 62).toNat) (Nat.ble_eq_true_of_le (by omega)) (show h 65 = .inl (0, 496, .inl (eIA K)) from q1.2.2.1) (by omega) (by omega) (by unfold i32; omega) rfl ?_
      refine eW_iastore 46 rfl rfl (Nat.ble_eq_true_of_le (by omega)) (show h 65 = .inl (0, 496, .inl (eIA K)) from q1.2.2.1) (by omega) (by omega) (by unfold i32; omega) rfl ?_
      intro h2 eh2 oh2
      have hmh2 : mM h2 s (mUp A 1 (eUp K c.toNat (K (c + 62).toNat))) := mM_1 q1 eh2 oh2 ⟨rfl, rfl, rfl, rfl, rfl, rfl, rfl, rfl⟩
      have frh2 : mFr h0 h2 := mFr_a q2 (by decide) oh2
      refine eW_iinc 49 rfl rfl [(2, vI (c + 1)), (0, .ref 63), (1, .ref r)] rfl rfl rfl ?_
      refine eW_goto rfl ?_
      refine eW_re [(0, .ref 63), (1, .ref r), (2, vI (c + 1))] rfl rfl (List.forall_mem_cons.mpr ⟨rfl, List.forall_mem_cons.mpr ⟨rfl, List.forall_mem_cons.mpr ⟨rfl, fun _ h => absurd h List.not_mem_nil⟩⟩⟩) (List.forall_mem_cons.mpr ⟨Or.inl rfl, List.forall_mem_cons.mpr ⟨Or.inl rfl, List.forall_mem_cons.mpr ⟨Or.inl rfl, fun _ h => absurd h List.not_mem_nil⟩⟩⟩) ?_
      refine ih (c + 1) _ h2 (by omega) (by omega) hmh2 frh2 (fun j hj => ?_) (fun j hj => ?_) kk
      · by_cases hj2 : (j : Int) = c
        · rw [eUp_eq (by omega), q4 _ (by omega), show (c + 62).toNat = j + 62 by omega]
        · rw [eUp_ne (by omega)]; exact q3 j (by omega)
      · rw [eUp_ne (by omega)]; exact q4 j (by omega)
theorem m_keeps {d N : Nat} {h : eHp} {s : Nat → Int} {A : Nat → Nat → Int} (hm : mM h s A) (hN : 75 ≤ N) (h6 : s 6 = 0 ∨ s 6 = 1) (h5 : 0 ≤ s 5 ∧ s 5 ≤ 8) : eSp (d + 2) eM_X7_keeps [.ref 63, .ref 64] N h (eChg none N (fun h' => ∃ s5 K, mD h (sUp (sUp s 5 s5) 7 0) (mUp A 1 K) h' ∧ kP (s 6) (s 5) (A 1) (A 0) s5 K)) := by
  refine eSp_of [(0, .ref 63), (1, .ref 64)] rfl rfl ?_
  refine eW_aload_n 1 rfl rfl rfl ?_
  refine eW_iconst 2 rfl rfl ?_
  refine eW_putfield 5 [.ref 64, .ref 65, .ref 66, .ref 67, vI (s 4), vI (s 5), vI (s 6), vI 0, vI (s 8), vI (s 9), .ref 68, vI (s 11), vI (s 12), .ref 69, vI (s 14), .ref 70, .ref 71, vI (s 17), vI (s 18), vI (s 19), vI (s 20), .ref 72, vI (s 22)] rfl rfl (Nat.ble_eq_true_of_le (by omega)) rfl hm.1 rfl rfl ?_
  intro h1 eh1 oh1
  have hmh1 : mM h1 (sUp s 7 0) A := mM_s (s := s) hm eh1 oh1
  have frh1 : mFr h h1 := mFr_s (fun _ _ => rfl) oh1
  refine eW_aload_n 6 rfl rfl rfl ?_
  refine eW_getfield 9 rfl rfl (Nat.ble_eq_true_of_le (by omega)) rfl (show h1 63 = .inr (11, [.ref 64, .ref 65, .ref 66, .ref 67, vI (s 4), vI (s 5), vI (s 6), vI 0, vI (s 8), vI (s 9), .ref 68, vI (s 11), vI (s 12), .ref 69, vI (s 14), .ref 70, .ref 71, vI (s 17), vI (s 18), vI (s 19), vI (s 20), .ref 72, vI (s 22)]) from hmh1.1) rfl ⟨rfl, fun _ h9 => nomatch h9⟩ ?_
  refine eW_if_eq 12 rfl rfl (by unfold i32; omega) (fun c2 => ?_) (fun c2 => ?_)
  · refine eW_aload_n 14 rfl rfl rfl ?_
    refine eW_getfield 17 rfl rfl (Nat.ble_eq_true_of_le (by omega)) rfl (show h1 63 = .inr (11, [.ref 64, .ref 65, .ref 66, .ref 67, vI (s 4), vI (s 5), vI (s 6), vI 0, vI (s 8), vI (s 9), .ref 68, vI (s 11), vI (s 12), .ref 69, vI (s 14), .ref 70, .ref 71, vI (s 17), vI (s 18), vI (s 19), vI (s 20), .ref 72, vI (s 22)]) from hmh1.1) rfl ⟨rfl, fun _ h9 => nomatch h9⟩ ?_
    refine eW_bipush 19 rfl rfl 8 rfl ?_
    refine eW_icmp_ne 22 rfl rfl (by unfold i32; omega) (by unfold i32; omega) (fun c3 => ?_) (fun c3 => ?_)
    · refine eW_aload_n 63 rfl rfl rfl ?_
      refine eW_iconst 64 rfl rfl ?_
      refine eW_aload_n 65 rfl rfl rfl ?_
      refine eW_getfield 68 rfl rfl (Nat.ble_eq_true_of_le (by omega)) rfl (show h1 63 = .inr (11, [.ref 64, .ref 65, .ref 66, .ref 67, vI (s 4), vI (s 5), vI (s 6), vI 0, vI (s 8), vI (s 9), .ref 68, vI (s 11), vI (s 12), .ref 69, vI (s 14), .ref 70, .ref 71, vI (s 17), vI (s 18), vI (s 19), vI (s 20), .ref 72, vI (s 22)]) from hmh1.1) rfl ⟨rfl, fun _ h9 => nomatch h9⟩ ?_
      refine eW_bipush 70 rfl rfl 62 rfl ?_
      refine eW_aload_n 71 rfl rfl rfl ?_
      refine eW_getfield 74 rfl rfl (Nat.ble_eq_true_of_le (by omega)) rfl (show h1 63 = .inr (11, [.ref 64, .ref 65, .ref 66, .ref 67, vI (s 4), vI (s 5), vI (s 6), vI 0, vI (s 8), vI (s 9), .ref 68, vI (s 11), vI (s 12), .ref 69, vI (s 14), .ref 70, .ref 71, vI (s 17), vI (s 18), vI (s 19), vI (s 20), .ref 72, vI (s 22)]) from hmh1.1) rfl ⟨rfl, fun _ h9 => nomatch h9⟩ ?_
      refine eW_imul 75 rfl rfl ?_
      refine eW_callSH 78 [.ref 64, vI 0, .ref 65, vI (62 * (s 5))] [] [] rfl rfl rfl (Or.inl rfl) rfl rfl rfl (m_copies (d := d + 0) (a := 65) (b := 64) (n0 := 62) (n1 := 496) (F := A 0) (D := A 1) (by omega) (by omega) (by decide) hmh1.2.2.1 hmh1.2.1 (by omega) (by omega) (by decide)) rfl rfl ?_
      intro h4 fh4
      have hmh4 : mM h4 (sUp s 7 0) (mUp A 1 (eCp (A 0) (A 1) (0 : Int).toNat (62 * (s 5)).toNat 62)) := mM_1 hmh1 fh4.1 fh4.2 ⟨rfl, rfl, rfl, rfl, rfl, rfl, rfl, rfl⟩
      have frh4 : mFr h h4 := mFr_a frh1 (k := 65) (by decide) fh4.2
      refine eW_aload_n 79 rfl rfl rfl ?_
      refine eW_dup 80 rfl rfl rfl ?_
      refine eW_getfield 83 rfl rfl (Nat.ble_eq_true_of_le (by omega)) rfl (show h4 63 = .inr (11, [.ref 64, .ref 65, .ref 66, .ref 67, vI (s 4), vI (s 5), vI (s 6), vI 0, vI (s 8), vI (s 9), .ref 68, vI (s 11), vI (s 12), .ref 69, vI (s 14), .ref 70, .ref 71, vI (s 17), vI (s 18), vI (s 19), vI (s 20), .ref 72, vI (s 22)]) from hmh4.1) rfl ⟨rfl, fun _ h9 => nomatch h9⟩ ?_
      refine eW_iconst 84 rfl rfl ?_
      refine eW_iadd 85 rfl rfl ?_
      refine eW_putfield 88 [.ref 64, .ref 65, .ref 66, .ref 67, vI (s 4), vI ((s 5) + 1), vI (s 6), vI 0, vI (s 8), vI (s 9), .ref 68, vI (s 11), vI (s 12), .ref 69, vI (s 14), .ref 70, .ref 71, vI (s 17), vI (s 18), vI (s 19), vI (s 20), .ref 72, vI (s 22)] rfl rfl (Nat.ble_eq_true_of_le (by omega)) rfl (show h4 63 = .inr (11, [.ref 64, .ref 65, .ref 66, .ref 67, vI (s 4), vI (s 5), vI (s 6), vI 0, vI (s 8), vI (s 9), .ref 68, vI (s 11), vI (s 12), .ref 69, vI (s 14), .ref 70, .ref 71, vI (s 17), vI (s 18), vI (s 19), vI (s 20), .ref 72, vI (s 22)]) from hmh4.1) rfl rfl ?_
      intro h5 eh5 oh5
      have hmh5 : mM h5 (sUp (sUp s 5 ((s 5) + 1)) 7 0) (mUp A 1 (eCp (A 0) (A 1) (0 : Int).toNat (62 * (s 5)).toNat 62)) := mM_s (s := (sUp s 7 0)) hmh4 eh5 oh5
      have frh5 : mFr h h5 := mFr_s frh4 oh5
      refine eW_ret rfl rfl ?_
      refine ⟨_, rfl, (s 5) + 1, _, ⟨hmh5, frh5⟩, fun e => absurd e (by omega), fun _ => ?_⟩
      refine ⟨fun e => absurd e (by omega), fun e8 => ⟨by omega, fun i j hi hj => ?_, fun j hj => ?_⟩⟩
      · rw [eCp_out (by omega)]
      · rw [eCp_in (by omega)]; congr 1; omega
    · refine eW_iconst 23 rfl rfl ?_
      refine eW_istore_n 24 rfl rfl [(2, vI 0), (0, .ref 63), (1, .ref 64)] rfl rfl ?_
      refine eW_re [(0, .ref 63), (1, .ref 64), (2, vI 0)] rfl rfl (List.forall_mem_cons.mpr ⟨rfl, List.forall_mem_cons.mpr ⟨rfl, List.forall_mem_cons.mpr ⟨rfl, fun _ h => absurd h List.not_mem_nil⟩⟩⟩) (List.forall_mem_cons.mpr ⟨Or.inl rfl, List.forall_mem_cons.mpr ⟨Or.inl rfl, List.forall_mem_cons.mpr ⟨Or.inl rfl, fun _ h => absurd h List.not_mem_nil⟩⟩⟩) ?_
      refine m_keeps_l (h0 := h) (s := (sUp s 7 0)) hN _ 0 (A 1) h1 (Int.self_le_toNat _) (by omega) (show mM h1 (sUp s 7 0) (mUp A 1 (A 1)) from hmh1) frh1 (fun j hj => absurd hj (by omega)) (fun _ _ => rfl) (fun K1 h6 r1 r2 r3 => ?_)
      refine eW_aload_n 53 rfl rfl rfl ?_
      refine eW_dup 54 rfl rfl rfl ?_
      refine eW_getfield 57 rfl rfl (Nat.ble_eq_true_of_le (by omega)) rfl (show h6 63 = .inr (11, [.ref 64, .ref 65, .ref 66, .ref 67, vI (s 4), vI (s 5), vI (s 6), vI 0, vI (s 8), vI (s 9), .ref 68, vI (s 11), vI (s 12), .ref 69, vI (s 14), .ref 70, .ref 71, vI (s 17), vI (s 18), vI (s 19), vI (s 20), .ref 72, vI (s 22)]) from r1.1) rfl ⟨rfl, fun _ h9 => nomatch h9⟩ ?_
      refine eW_iconst 58 rfl rfl ?_
      refine eW_isub 59 rfl rfl ?_
      refine eW_putfield 62 [.ref 64, .ref 65, .ref 66, .ref 67, vI (s 4), vI ((s 5) - 1), vI (s 6), vI 0, vI (s 8), vI (s 9), .ref 68, vI (s 11), vI (s 12), .ref 69, vI (s 14), .ref 70, .ref 71, vI (s 17), vI (s 18), vI (s 19), vI (s 20), .ref 72, vI (s 22)] rfl rfl (Nat.ble_eq_true_of_le (by omega)) rfl (show h6 63 = .inr (11, [.ref 64, .ref 65, .ref 66, .ref 67, vI (s 4), vI (s 5), vI (s 6), vI 0, vI (s 8), vI (s 9), .ref 68, vI (s 11), vI (s 12), .ref 69, vI (s 14), .ref 70, .ref 71, vI (s 17), vI (s 18), vI (s 19), vI (s 20), .ref 72, vI (s 22)]) from r1.1) rfl rfl ?_
      intro h7 eh7 oh7
      have hmh7 : mM h7 (sUp (sUp s 5 ((s 5) - 1)) 7 0) (mUp A 1 K1) := mM_s (s := (sUp s 7 0)) r1 eh7 oh7
      have frh7 : mFr h h7 := mFr_s r2 oh7
      refine eW_aload_n 63 rfl rfl rfl ?_
      refine eW_iconst 64 rfl rfl ?_
      refine eW_aload_n 65 rfl rfl rfl ?_
      refine eW_getfield 68 rfl rfl (Nat.ble_eq_true_of_le (by omega)) rfl (show h7 63 = .inr (11, [.ref 64, .ref 65, .ref 66, .ref 67, vI (s 4), vI ((s 5) - 1), vI (s 6), vI 0, vI (s 8), vI (s 9), .ref 68, vI (s 11), vI (s 12), .ref 69, vI (s 14), .ref 70, .ref 71, vI (s 17), vI (s 18), vI (s 19), vI (s 20), .ref 72, vI (s 22)]) from hmh7.1) rfl ⟨rfl, fun _ h9 => nomatch h9⟩ ?_
      refine eW_bipush 70 rfl rfl 62 rfl ?_
      refine eW_aload_n 71 rfl rfl rfl ?_
      refine eW_getfield 74 rfl rfl (Nat.ble_eq_true_of_le (by omega)) rfl (show h7 63 = .inr (11, [.ref 64, .ref 65, .ref 66, .ref 67, vI (s 4), vI ((s 5) - 1), vI (s 6), vI 0, vI (s 8), vI (s 9), .ref 68, vI (s 11), vI (s 12), .ref 69, vI (s 14), .ref 70, .ref 71, vI (s 17), vI (s 18), vI (s 19), vI (s 20), .ref 72, vI (s 22)]) from hmh7.1) rfl ⟨rfl, fun _ h9 => nomatch h9⟩ ?_
      refine eW_imul 75 rfl rfl ?_
      refine eW_callSH 78 [.ref 64, vI 0, .ref 65, vI (62 * ((s 5) - 1))] [] [] rfl rfl rfl (Or.inl rfl) rfl rfl rfl (m_copies (d := d + 0) (a := 65) (b := 64) (n0 := 62) (n1 := 496) (F := A 0) (D := K1) (by omega) (by omega) (by decide) hmh7.2.2.1 hmh7.2.1 (by omega) (by omega) (by decide)) rfl rfl ?_
      intro h8 fh8
      have hmh8 : mM h8 (sUp (sUp s 5 ((s 5) - 1)) 7 0) (mUp A 1 (eCp (A 0) K1 (0 : Int).toNat (62 * ((s 5) - 1)).toNat 62)) := mM_1 hmh7 fh8.1 fh8.2 ⟨rfl, rfl, rfl, rfl, rfl, rfl, rfl, rfl⟩
      have frh8 : mFr h h8 := mFr_a frh7 (k := 65) (by decide) fh8.2
      refine eW_aload_n 79 rfl rfl rfl ?_
      refine eW_dup 80 rfl rfl rfl ?_
      refine eW_getfield 83 rfl rfl (Nat.ble_eq_true_of_le (by omega)) rfl (show h8 63 = .inr (11, [.ref 64, .ref 65, .ref 66, .ref 67, vI (s 4), vI ((s 5) - 1), vI (s 6), vI 0, vI (s 8), vI (s 9), .ref 68, vI (s 11), vI (s 12), .ref 69, vI (s 14), .ref 70, .ref 71, vI (s 17), vI (s 18), vI (s 19), vI (s 20), .ref 72, vI (s 22)]) from hmh8.1) rfl ⟨rfl, fun _ h9 => nomatch h9⟩ ?_
      refine eW_iconst 84 rfl rfl ?_
      refine eW_iadd 85 rfl rfl ?_
      refine eW_putfield 88 [.ref 64, .ref 65, .ref 66, .ref 67, vI (s 4), vI (((s 5) - 1) + 1), vI (s 6), vI 0, vI (s 8), vI (s 9), .ref 68, vI (s 11), vI (s 12), .ref 69, vI (s 14), .ref 70, .ref 71, vI (s 17), vI (s 18), vI (s 19), vI (s 20), .ref 72, vI (s 22)] rfl rfl (Nat.ble_eq_true_of_le (by omega)) rfl (show h8 63 = .inr (11, [.ref 64, .ref 65, .ref 66, .ref 67, vI (s 4), vI ((s 5) - 1), vI (s 6), vI 0, vI (s 8), vI (s 9), .ref 68, vI (s 11), vI (s 12), .ref 69, vI (s 14), .ref 70, .ref 71, vI (s 17), vI (s 18), vI (s 19), vI (s 20), .ref 72, vI (s 22)]) from hmh8.1) rfl rfl ?_
      intro h9 eh9 oh9
      have hmh9 : mM h9 (sUp (sUp s 5 (((s 5) - 1) + 1)) 7 0) (mUp A 1 (eCp (A 0) K1 (0 : Int).toNat (62 * ((s 5) - 1)).toNat 62)) := mM_s (s := (sUp (sUp s 5 ((s 5) - 1)) 7 0)) hmh8 eh9 oh9
      have frh9 : mFr h h9 := mFr_s frh8 oh9
      refine eW_ret rfl rfl ?_
      refine ⟨_, rfl, ((s 5) - 1) + 1, _, ⟨hmh9, frh9⟩, fun e => absurd e (by omega), fun _ => ?_⟩
      refine ⟨fun e8 => ⟨by omega, fun i j hi hj => ?_, fun j hj => ?_⟩, fun e => absurd e (by omega)⟩
      · rw [eCp_out (by omega), r3 _ (by omega)]; congr 1; omega
      · rw [eCp_in (by omega)]; congr 1; omega
  · refine eW_ret rfl rfl ?_
    exact ⟨_, rfl, s 5, A 1, ⟨(show mM h1 (sUp (sUp s 5 (s 5)) 7 0) (mUp A 1 (A 1)) from hmh1), frh1⟩, fun _ => ⟨rfl, rfl⟩, fun e => absurd e (by omega)⟩
theorem m_keepsB {d N : Nat} {h : eHp} {s : Nat → Int} {A : Nat → Nat → Int} (hm : mM h s A) (hN : 75 ≤ N) (h6 : s 6 = 0 ∨ s 6 = 1) (h5 : 0 ≤ s 5 ∧ s 5 ≤ 8) : eSp (d + 2) eM_X7_keeps [.ref 63, .ref 67] N h (eChg none N (fun h' => ∃ s5 K, mD h (sUp (sUp s 5 s5) 7 0) (mUp A 1 K) h' ∧ kP (s 6) (s 5) (A 1) (A 3) s5 K)) := by
  refine eSp_of [(0, .ref 63), (1, .ref 67)] rfl rfl ?_
  refine eW_aload_n 1 rfl rfl rfl ?_
  refine eW_iconst 2 rfl rfl ?_
  refine eW_putfield 5 [.ref 64, .ref 65, .ref 66, .ref 67, vI (s 4), vI (s 5), vI (s 6), vI 0, vI (s 8), vI (s 9), .ref 68, vI (s 11), vI (s 12), .ref 69, vI (s 14), .ref 70, .ref 71, vI (s 17), vI (s 18), vI (s 19), vI (s 20), .ref 72, vI (s 22)] rfl rfl (Nat.ble_eq_true_of_le (by omega)) rfl hm.1 rfl rfl ?_
  intro h1 eh1 oh1
  have hmh1 : mM h1 (sUp s 7 0) A := mM_s (s := s) hm eh1 oh1
  have frh1 : mFr h h1 := mFr_s (fun _ _ => rfl) oh1
  refine eW_aload_n 6 rfl rfl rfl ?_
  refine eW_getfield 9 rfl rfl (Nat.ble_eq_true_of_le (by omega)) rfl (show h1 63 = .inr (11, [.ref 64, .ref 65, .ref 66, .ref 67, vI (s 4), vI (s 5), vI (s 6), vI 0, vI (s 8), vI (s 9), .ref 68, vI (s 11), vI (s 12), .ref 69, vI (s 14), .ref 70, .ref 71, vI (s 17), vI (s 18), vI (s 19), vI (s 20), .ref 72, vI (s 22)]) from hmh1.1) rfl ⟨rfl, fun _ h9 => nomatch h9⟩ ?_
  refine eW_if_eq 12 rfl rfl (by unfold i32; omega) (fun c2 => ?_) (fun c2 => ?_)
  · refine eW_aload_n 14 rfl rfl rfl ?_
    refine eW_getfield 17 rfl rfl (Nat.ble_eq_true_of_le (by omega)) rfl (show h1 63 = .inr (11, [.ref 64, .ref 65, .ref 66, .ref 67, vI (s 4), vI (s 5), vI (s 6), vI 0, vI (s 8), vI (s 9), .ref 68, vI (s 11), vI (s 12), .ref 69, vI (s 14), .ref 70, .ref 71, vI (s 17), vI (s 18), vI (s 19), vI (s 20), .ref 72, vI (s 22)]) from hmh1.1) rfl ⟨rfl, fun _ h9 => nomatch h9⟩ ?_
    refine eW_bipush 19 rfl rfl 8 rfl ?_
    refine eW_icmp_ne 22 rfl rfl (by unfold i32; omega) (by unfold i32; omega) (fun c3 => ?_) (fun c3 => ?_)
    · refine eW_aload_n 63 rfl rfl rfl ?_
      refine eW_iconst 64 rfl rfl ?_
      refine eW_aload_n 65 rfl rfl rfl ?_
      refine eW_getfield 68 rfl rfl (Nat.ble_eq_true_of_le (by omega)) rfl (show h1 63 = .inr (11, [.ref 64, .ref 65, .ref 66, .ref 67, vI (s 4), vI (s 5), vI (s 6), vI 0, vI (s 8), vI (s 9), .ref 68, vI (s 11), vI (s 12), .ref 69, vI (s 14), .ref 70, .ref 71, vI (s 17), vI (s 18), vI (s 19), vI (s 20), .ref 72, vI (s 22)]) from hmh1.1) rfl ⟨rfl, fun _ h9 => nomatch h9⟩ ?_
      refine eW_bipush 70 rfl rfl 62 rfl ?_
      refine eW_aload_n 71 rfl rfl rfl ?_
      refine eW_getfield 74 rfl rfl (Nat.ble_eq_true_of_le (by omega)) rfl (show h1 63 = .inr (11, [.ref 64, .ref 65, .ref 66, .ref 67, vI (s 4), vI (s 5), vI (s 6), vI 0, vI (s 8), vI (s 9), .ref 68, vI (s 11), vI (s 12), .ref 69, vI (s 14), .ref 70, .ref 71, vI (s 17), vI (s 18), vI (s 19), vI (s 20), .ref 72, vI (s 22)]) from hmh1.1) rfl ⟨rfl, fun _ h9 => nomatch h9⟩ ?_
      refine eW_imul 75 rfl rfl ?_
      refine eW_callSH 78 [.ref 67, vI 0, .ref 65, vI (62 * (s 5))] [] [] rfl rfl rfl (Or.inl rfl) rfl rfl rfl (m_copies (d := d + 0) (a := 65) (b := 67) (n0 := 62) (n1 := 496) (F := A 3) (D := A 1) (by omega) (by omega) (by decide) hmh1.2.2.1 hmh1.2.2.2.2.1 (by omega) (by omega) (by decide)) rfl rfl ?_
      intro h4 fh4
      have hmh4 : mM h4 (sUp s 7 0) (mUp A 1 (eCp (A 3) (A 1) (0 : Int).toNat (62 * (s 5)).toNat 62)) := mM_1 hmh1 fh4.1 fh4.2 ⟨rfl, rfl, rfl, rfl, rfl, rfl, rfl, rfl⟩
      have frh4 : mFr h h4 := mFr_a frh1 (k := 65) (by decide) fh4.2
      refine eW_aload_n 79 rfl rfl rfl ?_
      refine eW_dup 80 rfl rfl rfl ?_
      refine eW_getfield 83 rfl rfl (Nat.ble_eq_true_of_le (by omega)) rfl (show h4 63 = .inr (11, [.ref 64, .ref 65, .ref 66, .ref 67, vI (s 4), vI (s 5), vI (s 6), vI 0, vI (s 8), vI (s 9), .ref 68, vI (s 11), vI (s 12), .ref 69, vI (s 14), .ref 70, .ref 71, vI (s 17), vI (s 18), vI (s 19), vI (s 20), .ref 72, vI (s 22)]) from hmh4.1) rfl ⟨rfl, fun _ h9 => nomatch h9⟩ ?_
      refine eW_iconst 84 rfl rfl ?_
      refine eW_iadd 85 rfl rfl ?_
      refine eW_putfield 88 [.ref 64, .ref 65, .ref 66, .ref 67, vI (s 4), vI ((s 5) + 1), vI (s 6), vI 0, vI (s 8), vI (s 9), .ref 68, vI (s 11), vI (s 12), .ref 69, vI (s 14), .ref 70, .ref 71, vI (s 17), vI (s 18), vI (s 19), vI (s 20), .ref 72, vI (s 22)] rfl rfl (Nat.ble_eq_true_of_le (by omega)) rfl (show h4 63 = .inr (11, [.ref 64, .ref 65, .ref 66, .ref 67, vI (s 4), vI (s 5), vI (s 6), vI 0, vI (s 8), vI (s 9), .ref 68, vI (s 11), vI (s 12), .ref 69, vI (s 14), .ref 70, .ref 71, vI (s 17), vI (s 18), vI (s 19), vI (s 20), .ref 72, vI (s 22)]) from hmh4.1) rfl rfl ?_
      intro h5 eh5 oh5
      have hmh5 : mM h5 (sUp (sUp s 5 ((s 5) + 1)) 7 0) (mUp A 1 (eCp (A 3) (A 1) (0 : Int).toNat (62 * (s 5)).toNat 62)) := mM_s (s := (sUp s 7 0)) hmh4 eh5 oh5
      have frh5 : mFr h h5 := mFr_s frh4 oh5
      refine eW_ret rfl rfl ?_
      refine ⟨_, rfl, (s 5) + 1, _, ⟨hmh5, frh5⟩, fun e => absurd e (by omega), fun _ => ?_⟩
      refine ⟨fun e => absurd e (by omega), fun e8 => ⟨by omega, fun i j hi hj => ?_, fun j hj => ?_⟩⟩
      · rw [eCp_out (by omega)]
      · rw [eCp_in (by omega)]; congr 1; omega
    · refine eW_iconst 23 rfl rfl ?_
      refine eW_istore_n 24 rfl rfl [(2, vI 0), (0, .ref 63), (1, .ref 67)] rfl rfl ?_
      refine eW_re [(0, .ref 63), (1, .ref 67), (2, vI 0)] rfl rfl (List.forall_mem_cons.mpr ⟨rfl, List.forall_mem_cons.mpr ⟨rfl, List.forall_mem_cons.mpr ⟨rfl, fun _ h => absurd h List.not_mem_nil⟩⟩⟩) (List.forall_mem_cons.mpr ⟨Or.inl rfl, List.forall_mem_cons.mpr ⟨Or.inl rfl, List.forall_mem_cons.mpr ⟨Or.inl rfl, fun _ h => absurd h List.not_mem_nil⟩⟩⟩) ?_
      refine m_keeps_l (h0 := h) (s := (sUp s 7 0)) hN _ 0 (A 1) h1 (Int.self_le_toNat _) (by omega) (show mM h1 (sUp s 7 0) (mUp A 1 (A 1)) from hmh1) frh1 (fun j hj => absurd hj (by omega)) (fun _ _ => rfl) (fun K1 h6 r1 r2 r3 => ?_)
      refine eW_aload_n 53 rfl rfl rfl ?_
      refine eW_dup 54 rfl rfl rfl ?_
      refine eW_getfield 57 rfl rfl (Nat.ble_eq_true_of_le (by omega)) rfl (show h6 63 = .inr (11, [.ref 64, .ref 65, .ref 66, .ref 67, vI (s 4), vI (s 5), vI (s 6), vI 0, vI (s 8), vI (s 9), .ref 68, vI (s 11), vI (s 12), .ref 69, vI (s 14), .ref 70, .ref 71, vI (s 17), vI (s 18), vI (s 19), vI (s 20), .ref 72, vI (s 22)]) from r1.1) rfl ⟨rfl, fun _ h9 => nomatch h9⟩ ?_
      refine eW_iconst 58 rfl rfl ?_
      refine eW_isub 59 rfl rfl ?_
      refine eW_putfield 62 [.ref 64, .ref 65, .ref 66, .ref 67, vI (s 4), vI ((s 5) - 1), vI (s 6), vI 0, vI (s 8), vI (s 9), .ref 68, vI (s 11), vI (s 12), .ref 69, vI (s 14), .ref 70, .ref 71, vI (s 17), vI (s 18), vI (s 19), vI (s 20), .ref 72, vI (s 22)] rfl rfl (Nat.ble_eq_true_of_le (by omega)) rfl (show h6 63 = .inr (11, [.ref 64, .ref 65, .ref 66, .ref 67, vI (s 4), vI (s 5), vI (s 6), vI 0, vI (s 8), vI (s 9), .ref 68, vI (s 11), vI (s 12), .ref 69, vI (s 14), .ref 70, .ref 71, vI (s 17), vI (s 18), vI (s 19), vI (s 20), .ref 72, vI (s 22)]) from r1.1) rfl rfl ?_
      intro h7 eh7 oh7
      have hmh7 : mM h7 (sUp (sUp s 5 ((s 5) - 1)) 7 0) (mUp A 1 K1) := mM_s (s := (sUp s 7 0)) r1 eh7 oh7
      have frh7 : mFr h h7 := mFr_s r2 oh7
      refine eW_aload_n 63 rfl rfl rfl ?_
      refine eW_iconst 64 rfl rfl ?_
      refine eW_aload_n 65 rfl rfl rfl ?_
      refine eW_getfield 68 rfl rfl (Nat.ble_eq_true_of_le (by omega)) rfl (show h7 63 = .inr (11, [.ref 64, .ref 65, .ref 66, .ref 67, vI (s 4), vI ((s 5) - 1), vI (s 6), vI 0, vI (s 8), vI (s 9), .ref 68, vI (s 11), vI (s 12), .ref 69, vI (s 14), .ref 70, .ref 71, vI (s 17), vI (s 18), vI (s 19), vI (s 20), .ref 72, vI (s 22)]) from hmh7.1) rfl ⟨rfl, fun _ h9 => nomatch h9⟩ ?_
      refine eW_bipush 70 rfl rfl 62 rfl ?_
      refine eW_aload_n 71 rfl rfl rfl ?_
      refine eW_getfield 74 rfl rfl (Nat.ble_eq_true_of_le (by omega)) rfl (show h7 63 = .inr (11, [.ref 64, .ref 65, .ref 66, .ref 67, vI (s 4), vI ((s 5) - 1), vI (s 6), vI 0, vI (s 8), vI (s 9), .ref 68, vI (s 11), vI (s 12), .ref 69, vI (s 14), .ref 70, .ref 71, vI (s 17), vI (s 18), vI (s 19), vI (s 20), .ref 72, vI (s 22)]) from hmh7.1) rfl ⟨rfl, fun _ h9 => nomatch h9⟩ ?_
      refine eW_imul 75 rfl rfl ?_
      refine eW_callSH 78 [.ref 67, vI 0, .ref 65, vI (62 * ((s 5) - 1))] [] [] rfl rfl rfl (Or.inl rfl) rfl rfl rfl (m_copies (d := d + 0) (a := 65) (b := 67) (n0 := 62) (n1 := 496) (F := A 3) (D := K1) (by omega) (by omega) (by decide) hmh7.2.2.1 hmh7.2.2.2.2.1 (by omega) (by omega) (by decide)) rfl rfl ?_
      intro h8 fh8
      have hmh8 : mM h8 (sUp (sUp s 5 ((s 5) - 1)) 7 0) (mUp A 1 (eCp (A 3) K1 (0 : Int).toNat (62 * ((s 5) - 1)).toNat 62)) := mM_1 hmh7 fh8.1 fh8.2 ⟨rfl, rfl, rfl, rfl, rfl, rfl, rfl, rfl⟩
      have frh8 : mFr h h8 := mFr_a frh7 (k := 65) (by decide) fh8.2
      refine eW_aload_n 79 rfl rfl rfl ?_
      refine eW_dup 80 rfl rfl rfl ?_
      refine eW_getfield 83 rfl rfl (Nat.ble_eq_true_of_le (by omega)) rfl (show h8 63 = .inr (11, [.ref 64, .ref 65, .ref 66, .ref 67, vI (s 4), vI ((s 5) - 1), vI (s 6), vI 0, vI (s 8), vI (s 9), .ref 68, vI (s 11), vI (s 12), .ref 69, vI (s 14), .ref 70, .ref 71, vI (s 17), vI (s 18), vI (s 19), vI (s 20), .ref 72, vI (s 22)]) from hmh8.1) rfl ⟨rfl, fun _ h9 => nomatch h9⟩ ?_
      refine eW_iconst 84 rfl rfl ?_
      refine eW_iadd 85 rfl rfl ?_
      refine eW_putfield 88 [.ref 64, .ref 65, .ref 66, .ref 67, vI (s 4), vI (((s 5) - 1) + 1), vI (s 6), vI 0, vI (s 8), vI (s 9), .ref 68, vI (s 11), vI (s 12), .ref 69, vI (s 14), .ref 70, .ref 71, vI (s 17), vI (s 18), vI (s 19), vI (s 20), .ref 72, vI (s 22)] rfl rfl (Nat.ble_eq_true_of_le (by omega)) rfl (show h8 63 = .inr (11, [.ref 64, .ref 65, .ref 66, .ref 67, vI (s 4), vI ((s 5) - 1), vI (s 6), vI 0, vI (s 8), vI (s 9), .ref 68, vI (s 11), vI (s 12), .ref 69, vI (s 14), .ref 70, .ref 71, vI (s 17), vI (s 18), vI (s 19), vI (s 20), .ref 72, vI (s 22)]) from hmh8.1) rfl rfl ?_
      intro h9 eh9 oh9
      have hmh9 : mM h9 (sUp (sUp s 5 (((s 5) - 1) + 1)) 7 0) (mUp A 1 (eCp (A 3) K1 (0 : Int).toNat (62 * ((s 5) - 1)).toNat 62)) := mM_s (s := (sUp (sUp s 5 ((s 5) - 1)) 7 0)) hmh8 eh9 oh9
      have frh9 : mFr h h9 := mFr_s frh8 oh9
      refine eW_ret rfl rfl ?_
      refine ⟨_, rfl, ((s 5) - 1) + 1, _, ⟨hmh9, frh9⟩, fun e => absurd e (by omega), fun _ => ?_⟩
      refine ⟨fun e8 => ⟨by omega, fun i j hi hj => ?_, fun j hj => ?_⟩, fun e => absurd e (by omega)⟩
      · rw [eCp_out (by omega), r3 _ (by omega)]; congr 1; omega
      · rw [eCp_in (by omega)]; congr 1; omega
  · refine eW_ret rfl rfl ?_
    exact ⟨_, rfl, s 5, A 1, ⟨(show mM h1 (sUp (sUp s 5 (s 5)) 7 0) (mUp A 1 (A 1)) from hmh1), frh1⟩, fun _ => ⟨rfl, rfl⟩, fun e => absurd e (by omega)⟩
