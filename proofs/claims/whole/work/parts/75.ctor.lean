/-! the constructors -/
theorem seg_one {h : eHp} {a : Nat} {e : va_E} (h1 : h a = e) : hSeg h a [e] := by
  intro j e9 hj
  cases j with
  | zero => cases hj; exact h1
  | succ j => cases hj
theorem seg_pre {h : eHp} {a : Nat} {cs ds : List va_E} (hs : hSeg h a (cs ++ ds)) : hSeg h a cs := by
  intro j e9 hj
  refine hs j e9 ?_
  rw [List.getElem?_append_left (List.getElem?_eq_some_iff.mp hj).1]
  exact hj
theorem eClO_no (N n : Nat) : eClO N n (fun _ => none) = true := List.all_eq_true.mpr (fun _ _ => rfl)
theorem eClO_up {N n i b : Nat} {f : Nat → Option Nat} (hb : b < N) (h : eClO N n f = true) : eClO N n (va_up f i (some b)) = true := by
  refine List.all_eq_true.mpr (fun j hj => ?_)
  by_cases e : j = i
  · subst e
    rw [va_up_self]
    exact Nat.ble_eq_true_of_le hb
  · rw [va_up_ne _ _ e]
    exact List.all_eq_true.mp h j hj
theorem eClH_at {N a : Nat} {h : eHp} {e : va_E} (hc : eClH N h = true) (ha : a < N) (he : h a = e) : eClE N e = true := by
  rw [← he]
  exact List.all_eq_true.mp hc a (List.mem_range.mpr ha)
theorem c_X0_init {d a : Nat} {h : eHp} (s0 : hSeg h a [.inr (4, [.null, .null, .null, vI 0, vI 0, vI 0, vI 0, vI 0])]) (c0 : eClH (a + 1) h = true) : eSp (d + 1) eM_X0_init [.ref a] (a + 1) h (cC a [.inr (4, [.ref (a + 1), .ref (a + 2), .ref (a + 3), vI 0, vI 0, vI 0, vI 0, vI 0]), .inl (0, 40, .inl (eIA (fun _ => 0))), .inl (0, 6, .inl (eIA (fun _ => 0))), .inl (0, 8, .inl (eIA (fun _ => 0)))] 3 54 h) := by
  refine eSp_of [(0, .ref a)] rfl rfl ?_
  have f0 : ∀ i, i < a → h i = h i := fun _ _ => rfl
  refine eW_aload_n 1 rfl rfl rfl ?_
  refine eW_objInit 4 rfl rfl rfl rfl ?_
  refine eW_aload_n 5 rfl rfl rfl ?_
  refine eW_bipush 7 rfl rfl 40 rfl ?_
  refine eW_newX 9 0 (.inl (eIA (fun _ => 0))) rfl rfl (fun _ => rfl) (by omega) (eClA_of (by simp only [vI, eClL, eClV, List.all_cons, List.all_nil, Bool.and_true, Bool.and_eq_true, Bool.true_and, Nat.ble_eq]; first | done | omega) c0) ?_
  intro h1 e1 o1
  have s1 : hSeg h1 a [.inr (4, [.null, .null, .null, vI 0, vI 0, vI 0, vI 0, vI 0]), .inl (0, 40, .inl (eIA (fun _ => 0)))] := seg_new s0 rfl e1 o1
  have c1 : eClH (a + 2) h1 = true := eClH_new c0 e1 rfl o1
  have f1 : ∀ i, i < a → h1 i = h i := fun i hi => (o1 i (by omega)).trans (f0 i hi)
  refine eW_putfield 12 [.ref (a + 1), .null, .null, vI 0, vI 0, vI 0, vI 0, vI 0] rfl rfl (Nat.ble_eq_true_of_le (by omega)) rfl (show h1 a = .inr (4, [.null, .null, .null, vI 0, vI 0, vI 0, vI 0, vI 0]) from s1 0 _ rfl) rfl rfl ?_
  intro h2 e2 o2
  have s2 : hSeg h2 a [.inr (4, [.ref (a + 1), .null, .null, vI 0, vI 0, vI 0, vI 0, vI 0]), .inl (0, 40, .inl (eIA (fun _ => 0)))] := seg_put 0 s1 rfl e2 o2
  have c2 : eClH (a + 2) h2 = true := eClH_up c1 e2 (by simp only [vI, eClE, List.all_cons, List.all_nil, eClV, Bool.and_true, Bool.true_and, Bool.and_eq_true, Nat.ble_eq]; first | done | omega) o2
  have f2 : ∀ i, i < a → h2 i = h i := fun i hi => (o2 i (by omega)).trans (f1 i hi)
  refine eW_aload_n 13 rfl rfl rfl ?_
  refine eW_bipush 15 rfl rfl 6 rfl ?_
  refine eW_newX 17 0 (.inl (eIA (fun _ => 0))) rfl rfl (fun _ => rfl) (by omega) (eClA_of (by simp only [vI, eClL, eClV, List.all_cons, List.all_nil, Bool.and_true, Bool.and_eq_true, Bool.true_and, Nat.ble_eq]; first | done | omega) c2) ?_
  intro h3 e3 o3
  have s3 : hSeg h3 a [.inr (4, [.ref (a + 1), .null, .null, vI 0, vI 0, vI 0, vI 0, vI 0]), .inl (0, 40, .inl (eIA (fun _ => 0))), .inl (0, 6, .inl (eIA (fun _ => 0)))] := seg_new s2 rfl e3 o3
  have c3 : eClH (a + 3) h3 = true := eClH_new c2 e3 rfl o3
  have f3 : ∀ i, i < a → h3 i = h i := fun i hi => (o3 i (by omega)).trans (f2 i hi)
  refine eW_putfield 20 [.ref (a + 1), .ref (a + 2), .null, vI 0, vI 0, vI 0, vI 0, vI 0] rfl rfl (Nat.ble_eq_true_of_le (by omega)) rfl (show h3 a = .inr (4, [.ref (a + 1), .null, .null, vI 0, vI 0, vI 0, vI 0, vI 0]) from s3 0 _ rfl) rfl rfl ?_
  intro h4 e4 o4
  have s4 : hSeg h4 a [.inr (4, [.ref (a + 1), .ref (a + 2), .null, vI 0, vI 0, vI 0, vI 0, vI 0]), .inl (0, 40, .inl (eIA (fun _ => 0))), .inl (0, 6, .inl (eIA (fun _ => 0)))] := seg_put 0 s3 rfl e4 o4
  have c4 : eClH (a + 3) h4 = true := eClH_up c3 e4 (by simp only [vI, eClE, List.all_cons, List.all_nil, eClV, Bool.and_true, Bool.true_and, Bool.and_eq_true, Nat.ble_eq]; first | done | omega) o4
  have f4 : ∀ i, i < a → h4 i = h i := fun i hi => (o4 i (by omega)).trans (f3 i hi)
  refine eW_aload_n 21 rfl rfl rfl ?_
  refine eW_bipush 23 rfl rfl 8 rfl ?_
  refine eW_newX 25 0 (.inl (eIA (fun _ => 0))) rfl rfl (fun _ => rfl) (by omega) (eClA_of (by simp only [vI, eClL, eClV, List.all_cons, List.all_nil, Bool.and_true, Bool.and_eq_true, Bool.true_and, Nat.ble_eq]; first | done | omega) c4) ?_
  intro h5 e5 o5
  have s5 : hSeg h5 a [.inr (4, [.ref (a + 1), .ref (a + 2), .null, vI 0, vI 0, vI 0, vI 0, vI 0]), .inl (0, 40, .inl (eIA (fun _ => 0))), .inl (0, 6, .inl (eIA (fun _ => 0))), .inl (0, 8, .inl (eIA (fun _ => 0)))] := seg_new s4 rfl e5 o5
  have c5 : eClH (a + 4) h5 = true := eClH_new c4 e5 rfl o5
  have f5 : ∀ i, i < a → h5 i = h i := fun i hi => (o5 i (by omega)).trans (f4 i hi)
  refine eW_putfield 28 [.ref (a + 1), .ref (a + 2), .ref (a + 3), vI 0, vI 0, vI 0, vI 0, vI 0] rfl rfl (Nat.ble_eq_true_of_le (by omega)) rfl (show h5 a = .inr (4, [.ref (a + 1), .ref (a + 2), .null, vI 0, vI 0, vI 0, vI 0, vI 0]) from s5 0 _ rfl) rfl rfl ?_
  intro h6 e6 o6
  have s6 : hSeg h6 a [.inr (4, [.ref (a + 1), .ref (a + 2), .ref (a + 3), vI 0, vI 0, vI 0, vI 0, vI 0]), .inl (0, 40, .inl (eIA (fun _ => 0))), .inl (0, 6, .inl (eIA (fun _ => 0))), .inl (0, 8, .inl (eIA (fun _ => 0)))] := seg_put 0 s5 rfl e6 o6
  have c6 : eClH (a + 4) h6 = true := eClH_up c5 e6 (by simp only [vI, eClE, List.all_cons, List.all_nil, eClV, Bool.and_true, Bool.true_and, Bool.and_eq_true, Nat.ble_eq]; first | done | omega) o6
  have f6 : ∀ i, i < a → h6 i = h i := fun i hi => (o6 i (by omega)).trans (f5 i hi)
  refine eW_ret rfl rfl ?_
  exact ⟨h6, rfl, s6, f6, c6⟩
theorem c_X5_init {d a : Nat} {h : eHp} (s0 : hSeg h a [.inr (9, [.null, .null, .null, .null, .null])]) (c0 : eClH (a + 1) h = true) : eSp (d + 1) eM_X5_init [.ref a] (a + 1) h (cC a [.inr (9, [.ref (a + 1), .ref (a + 2), .ref (a + 3), .ref (a + 4), .ref (a + 5)]), .inl (0, 7, .inl (eIA (fun _ => 0))), .inl (0, 31, .inl (eIA (fun _ => 0))), .inl (0, 31, .inl (eIA (fun _ => 0))), .inl (0, 31, .inl (eIA (fun _ => 0))), .inl (2, 32, .inl (eIA (fun _ => 0)))] 5 132 h) := by
  refine eSp_of [(0, .ref a)] rfl rfl ?_
  have f0 : ∀ i, i < a → h i = h i := fun _ _ => rfl
  refine eW_aload_n 1 rfl rfl rfl ?_
  refine eW_objInit 4 rfl rfl rfl rfl ?_
  refine eW_aload_n 5 rfl rfl rfl ?_
  refine eW_bipush 7 rfl rfl 7 rfl ?_
  refine eW_newX 9 0 (.inl (eIA (fun _ => 0))) rfl rfl (fun _ => rfl) (by omega) (eClA_of (by simp only [vI, eClL, eClV, List.all_cons, List.all_nil, Bool.and_true, Bool.and_eq_true, Bool.true_and, Nat.ble_eq]; first | done | omega) c0) ?_
  intro h1 e1 o1
  have s1 : hSeg h1 a [.inr (9, [.null, .null, .null, .null, .null]), .inl (0, 7, .inl (eIA (fun _ => 0)))] := seg_new s0 rfl e1 o1
  have c1 : eClH (a + 2) h1 = true := eClH_new c0 e1 rfl o1
  have f1 : ∀ i, i < a → h1 i = h i := fun i hi => (o1 i (by omega)).trans (f0 i hi)
  refine eW_putfield 12 [.ref (a + 1), .null, .null, .null, .null] rfl rfl (Nat.ble_eq_true_of_le (by omega)) rfl (show h1 a = .inr (9, [.null, .null, .null, .null, .null]) from s1 0 _ rfl) rfl rfl ?_
  intro h2 e2 o2
  have s2 : hSeg h2 a [.inr (9, [.ref (a + 1), .null, .null, .null, .null]), .inl (0, 7, .inl (eIA (fun _ => 0)))] := seg_put 0 s1 rfl e2 o2
  have c2 : eClH (a + 2) h2 = true := eClH_up c1 e2 (by simp only [vI, eClE, List.all_cons, List.all_nil, eClV, Bool.and_true, Bool.true_and, Bool.and_eq_true, Nat.ble_eq]; first | done | omega) o2
  have f2 : ∀ i, i < a → h2 i = h i := fun i hi => (o2 i (by omega)).trans (f1 i hi)
  refine eW_aload_n 13 rfl rfl rfl ?_
  refine eW_bipush 15 rfl rfl 31 rfl ?_
  refine eW_newX 17 0 (.inl (eIA (fun _ => 0))) rfl rfl (fun _ => rfl) (by omega) (eClA_of (by simp only [vI, eClL, eClV, List.all_cons, List.all_nil, Bool.and_true, Bool.and_eq_true, Bool.true_and, Nat.ble_eq]; first | done | omega) c2) ?_
  intro h3 e3 o3
  have s3 : hSeg h3 a [.inr (9, [.ref (a + 1), .null, .null, .null, .null]), .inl (0, 7, .inl (eIA (fun _ => 0))), .inl (0, 31, .inl (eIA (fun _ => 0)))] := seg_new s2 rfl e3 o3
  have c3 : eClH (a + 3) h3 = true := eClH_new c2 e3 rfl o3
  have f3 : ∀ i, i < a → h3 i = h i := fun i hi => (o3 i (by omega)).trans (f2 i hi)
  refine eW_putfield 20 [.ref (a + 1), .ref (a + 2), .null, .null, .null] rfl rfl (Nat.ble_eq_true_of_le (by omega)) rfl (show h3 a = .inr (9, [.ref (a + 1), .null, .null, .null, .null]) from s3 0 _ rfl) rfl rfl ?_
  intro h4 e4 o4
  have s4 : hSeg h4 a [.inr (9, [.ref (a + 1), .ref (a + 2), .null, .null, .null]), .inl (0, 7, .inl (eIA (fun _ => 0))), .inl (0, 31, .inl (eIA (fun _ => 0)))] := seg_put 0 s3 rfl e4 o4
  have c4 : eClH (a + 3) h4 = true := eClH_up c3 e4 (by simp only [vI, eClE, List.all_cons, List.all_nil, eClV, Bool.and_true, Bool.true_and, Bool.and_eq_true, Nat.ble_eq]; first | done | omega) o4
  have f4 : ∀ i, i < a → h4 i = h i := fun i hi => (o4 i (by omega)).trans (f3 i hi)
  refine eW_aload_n 21 rfl rfl rfl ?_
  refine eW_bipush 23 rfl rfl 31 rfl ?_
  refine eW_newX 25 0 (.inl (eIA (fun _ => 0))) rfl rfl (fun _ => rfl) (by omega) (eClA_of (by simp only [vI, eClL, eClV, List.all_cons, List.all_nil, Bool.and_true, Bool.and_eq_true, Bool.true_and, Nat.ble_eq]; first | done | omega) c4) ?_
  intro h5 e5 o5
  have s5 : hSeg h5 a [.inr (9, [.ref (a + 1), .ref (a + 2), .null, .null, .null]), .inl (0, 7, .inl (eIA (fun _ => 0))), .inl (0, 31, .inl (eIA (fun _ => 0))), .inl (0, 31, .inl (eIA (fun _ => 0)))] := seg_new s4 rfl e5 o5
  have c5 : eClH (a + 4) h5 = true := eClH_new c4 e5 rfl o5
  have f5 : ∀ i, i < a → h5 i = h i := fun i hi => (o5 i (by omega)).trans (f4 i hi)
  refine eW_putfield 28 [.ref (a + 1), .ref (a + 2), .ref (a + 3), .null, .null] rfl rfl (Nat.ble_eq_true_of_le (by omega)) rfl (show h5 a = .inr (9, [.ref (a + 1), .ref (a + 2), .null, .null, .null]) from s5 0 _ rfl) rfl rfl ?_
  intro h6 e6 o6
  have s6 : hSeg h6 a [.inr (9, [.ref (a + 1), .ref (a + 2), .ref (a + 3), .null, .null]), .inl (0, 7, .inl (eIA (fun _ => 0))), .inl (0, 31, .inl (eIA (fun _ => 0))), .inl (0, 31, .inl (eIA (fun _ => 0)))] := seg_put 0 s5 rfl e6 o6
  have c6 : eClH (a + 4) h6 = true := eClH_up c5 e6 (by simp only [vI, eClE, List.all_cons, List.all_nil, eClV, Bool.and_true, Bool.true_and, Bool.and_eq_true, Nat.ble_eq]; first | done | omega) o6
  have f6 : ∀ i, i < a → h6 i = h i := fun i hi => (o6 i (by omega)).trans (f5 i hi)
  refine eW_aload_n 29 rfl rfl rfl ?_
  refine eW_bipush 31 rfl rfl 31 rfl ?_
  refine eW_newX 33 0 (.inl (eIA (fun _ => 0))) rfl rfl (fun _ => rfl) (by omega) (eClA_of (by simp only [vI, eClL, eClV, List.all_cons, List.all_nil, Bool.and_true, Bool.and_eq_true, Bool.true_and, Nat.ble_eq]; first | done | omega) c6) ?_
  intro h7 e7 o7
  have s7 : hSeg h7 a [.inr (9, [.ref (a + 1), .ref (a + 2), .ref (a + 3), .null, .null]), .inl (0, 7, .inl (eIA (fun _ => 0))), .inl (0, 31, .inl (eIA (fun _ => 0))), .inl (0, 31, .inl (eIA (fun _ => 0))), .inl (0, 31, .inl (eIA (fun _ => 0)))] := seg_new s6 rfl e7 o7
  have c7 : eClH (a + 5) h7 = true := eClH_new c6 e7 rfl o7
  have f7 : ∀ i, i < a → h7 i = h i := fun i hi => (o7 i (by omega)).trans (f6 i hi)
  refine eW_putfield 36 [.ref (a + 1), .ref (a + 2), .ref (a + 3), .ref (a + 4), .null] rfl rfl (Nat.ble_eq_true_of_le (by omega)) rfl (show h7 a = .inr (9, [.ref (a + 1), .ref (a + 2), .ref (a + 3), .null, .null]) from s7 0 _ rfl) rfl rfl ?_
  intro h8 e8 o8
  have s8 : hSeg h8 a [.inr (9, [.ref (a + 1), .ref (a + 2), .ref (a + 3), .ref (a + 4), .null]), .inl (0, 7, .inl (eIA (fun _ => 0))), .inl (0, 31, .inl (eIA (fun _ => 0))), .inl (0, 31, .inl (eIA (fun _ => 0))), .inl (0, 31, .inl (eIA (fun _ => 0)))] := seg_put 0 s7 rfl e8 o8
  have c8 : eClH (a + 5) h8 = true := eClH_up c7 e8 (by simp only [vI, eClE, List.all_cons, List.all_nil, eClV, Bool.and_true, Bool.true_and, Bool.and_eq_true, Nat.ble_eq]; first | done | omega) o8
  have f8 : ∀ i, i < a → h8 i = h i := fun i hi => (o8 i (by omega)).trans (f7 i hi)
  refine eW_aload_n 37 rfl rfl rfl ?_
  refine eW_bipush 39 rfl rfl 32 rfl ?_
  refine eW_newX 41 2 (.inl (eIA (fun _ => 0))) rfl rfl (fun _ => rfl) (by omega) (eClA_of (by simp only [vI, eClL, eClV, List.all_cons, List.all_nil, Bool.and_true, Bool.and_eq_true, Bool.true_and, Nat.ble_eq]; first | done | omega) c8) ?_
  intro h9 e9 o9
  have s9 : hSeg h9 a [.inr (9, [.ref (a + 1), .ref (a + 2), .ref (a + 3), .ref (a + 4), .null]), .inl (0, 7, .inl (eIA (fun _ => 0))), .inl (0, 31, .inl (eIA (fun _ => 0))), .inl (0, 31, .inl (eIA (fun _ => 0))), .inl (0, 31, .inl (eIA (fun _ => 0))), .inl (2, 32, .inl (eIA (fun _ => 0)))] := seg_new s8 rfl e9 o9
  have c9 : eClH (a + 6) h9 = true := eClH_new c8 e9 rfl o9
  have f9 : ∀ i, i < a → h9 i = h i := fun i hi => (o9 i (by omega)).trans (f8 i hi)
  refine eW_putfield 44 [.ref (a + 1), .ref (a + 2), .ref (a + 3), .ref (a + 4), .ref (a + 5)] rfl rfl (Nat.ble_eq_true_of_le (by omega)) rfl (show h9 a = .inr (9, [.ref (a + 1), .ref (a + 2), .ref (a + 3), .ref (a + 4), .null]) from s9 0 _ rfl) rfl rfl ?_
  intro h10 e10 o10
  have s10 : hSeg h10 a [.inr (9, [.ref (a + 1), .ref (a + 2), .ref (a + 3), .ref (a + 4), .ref (a + 5)]), .inl (0, 7, .inl (eIA (fun _ => 0))), .inl (0, 31, .inl (eIA (fun _ => 0))), .inl (0, 31, .inl (eIA (fun _ => 0))), .inl (0, 31, .inl (eIA (fun _ => 0))), .inl (2, 32, .inl (eIA (fun _ => 0)))] := seg_put 0 s9 rfl e10 o10
  have c10 : eClH (a + 6) h10 = true := eClH_up c9 e10 (by simp only [vI, eClE, List.all_cons, List.all_nil, eClV, Bool.and_true, Bool.true_and, Bool.and_eq_true, Nat.ble_eq]; first | done | omega) o10
  have f10 : ∀ i, i < a → h10 i = h i := fun i hi => (o10 i (by omega)).trans (f9 i hi)
  refine eW_ret rfl rfl ?_
  exact ⟨h10, rfl, s10, f10, c10⟩
theorem c_X4_init {d a : Nat} {h : eHp} (s0 : hSeg h a [.inr (8, [.null, .null, vI 0])]) (c0 : eClH (a + 1) h = true) : eSp (d + 1) eM_X4_init [.ref a] (a + 1) h (cC a [.inr (8, [.ref (a + 1), .ref (a + 2), vI 0]), .inl (4, 139, .inr (.inl (eLA (fun _ => 0)))), .inl (2, 139, .inl (eIA (fun _ => 0)))] 2 278 h) := by
  refine eSp_of [(0, .ref a)] rfl rfl ?_
  have f0 : ∀ i, i < a → h i = h i := fun _ _ => rfl
  refine eW_aload_n 1 rfl rfl rfl ?_
  refine eW_objInit 4 rfl rfl rfl rfl ?_
  refine eW_aload_n 5 rfl rfl rfl ?_
  refine eW_sipush 8 rfl rfl 139 rfl ?_
  refine eW_newX 10 4 (.inr (.inl (eLA (fun _ => 0)))) rfl rfl (fun _ => rfl) (by omega) (eClA_of (by simp only [vI, eClL, eClV, List.all_cons, List.all_nil, Bool.and_true, Bool.and_eq_true, Bool.true_and, Nat.ble_eq]; first | done | omega) c0) ?_
  intro h1 e1 o1
  have s1 : hSeg h1 a [.inr (8, [.null, .null, vI 0]), .inl (4, 139, .inr (.inl (eLA (fun _ => 0))))] := seg_new s0 rfl e1 o1
  have c1 : eClH (a + 2) h1 = true := eClH_new c0 e1 rfl o1
  have f1 : ∀ i, i < a → h1 i = h i := fun i hi => (o1 i (by omega)).trans (f0 i hi)
  refine eW_putfield 13 [.ref (a + 1), .null, vI 0] rfl rfl (Nat.ble_eq_true_of_le (by omega)) rfl (show h1 a = .inr (8, [.null, .null, vI 0]) from s1 0 _ rfl) rfl rfl ?_
  intro h2 e2 o2
  have s2 : hSeg h2 a [.inr (8, [.ref (a + 1), .null, vI 0]), .inl (4, 139, .inr (.inl (eLA (fun _ => 0))))] := seg_put 0 s1 rfl e2 o2
  have c2 : eClH (a + 2) h2 = true := eClH_up c1 e2 (by simp only [vI, eClE, List.all_cons, List.all_nil, eClV, Bool.and_true, Bool.true_and, Bool.and_eq_true, Nat.ble_eq]; first | done | omega) o2
  have f2 : ∀ i, i < a → h2 i = h i := fun i hi => (o2 i (by omega)).trans (f1 i hi)
  refine eW_aload_n 14 rfl rfl rfl ?_
  refine eW_sipush 17 rfl rfl 139 rfl ?_
  refine eW_newX 19 2 (.inl (eIA (fun _ => 0))) rfl rfl (fun _ => rfl) (by omega) (eClA_of (by simp only [vI, eClL, eClV, List.all_cons, List.all_nil, Bool.and_true, Bool.and_eq_true, Bool.true_and, Nat.ble_eq]; first | done | omega) c2) ?_
  intro h3 e3 o3
  have s3 : hSeg h3 a [.inr (8, [.ref (a + 1), .null, vI 0]), .inl (4, 139, .inr (.inl (eLA (fun _ => 0)))), .inl (2, 139, .inl (eIA (fun _ => 0)))] := seg_new s2 rfl e3 o3
  have c3 : eClH (a + 3) h3 = true := eClH_new c2 e3 rfl o3
  have f3 : ∀ i, i < a → h3 i = h i := fun i hi => (o3 i (by omega)).trans (f2 i hi)
  refine eW_putfield 22 [.ref (a + 1), .ref (a + 2), vI 0] rfl rfl (Nat.ble_eq_true_of_le (by omega)) rfl (show h3 a = .inr (8, [.ref (a + 1), .null, vI 0]) from s3 0 _ rfl) rfl rfl ?_
  intro h4 e4 o4
  have s4 : hSeg h4 a [.inr (8, [.ref (a + 1), .ref (a + 2), vI 0]), .inl (4, 139, .inr (.inl (eLA (fun _ => 0)))), .inl (2, 139, .inl (eIA (fun _ => 0)))] := seg_put 0 s3 rfl e4 o4
  have c4 : eClH (a + 3) h4 = true := eClH_up c3 e4 (by simp only [vI, eClE, List.all_cons, List.all_nil, eClV, Bool.and_true, Bool.true_and, Bool.and_eq_true, Nat.ble_eq]; first | done | omega) o4
  have f4 : ∀ i, i < a → h4 i = h i := fun i hi => (o4 i (by omega)).trans (f3 i hi)
  refine eW_ret rfl rfl ?_
  exact ⟨h4, rfl, s4, f4, c4⟩
theorem c_X2_init {d a : Nat} {h : eHp} (s0 : hSeg h a [.inr (6, [vI 0, vI 0, vI 0])]) (c0 : eClH (a + 1) h = true) : eSp (d + 1) eM_X2_init [.ref a] (a + 1) h (cC a [.inr (6, [vI 0, vI 0, vI 0])] 0 0 h) := by
  refine eSp_of [(0, .ref a)] rfl rfl ?_
  have f0 : ∀ i, i < a → h i = h i := fun _ _ => rfl
  refine eW_aload_n 1 rfl rfl rfl ?_
  refine eW_objInit 4 rfl rfl rfl rfl ?_
  refine eW_ret rfl rfl ?_
  exact ⟨h, rfl, s0, f0, c0⟩
theorem c_X3_init {d a : Nat} {h : eHp} (s0 : hSeg h a [.inr (7, [.null, .null, .null, vI 0, vI 0, vI 0])]) (c0 : eClH (a + 1) h = true) : eSp (d + 1) eM_X3_init [.ref a] (a + 1) h (cC a [.inr (7, [.ref (a + 1), .ref (a + 2), .ref (a + 3), vI 0, vI 0, vI 0]), .inl (1, 60, .inl (eIA (fun _ => 0))), .inl (1, 30, .inl (eIA (fun _ => 0))), .inl (0, 90, .inl (eIA (fun _ => 0)))] 3 180 h) := by
  refine eSp_of [(0, .ref a)] rfl rfl ?_
  have f0 : ∀ i, i < a → h i = h i := fun _ _ => rfl
  refine eW_aload_n 1 rfl rfl rfl ?_
  refine eW_objInit 4 rfl rfl rfl rfl ?_
  refine eW_aload_n 5 rfl rfl rfl ?_
  refine eW_bipush 7 rfl rfl 60 rfl ?_
  refine eW_newX 9 1 (.inl (eIA (fun _ => 0))) rfl rfl (fun _ => rfl) (by omega) (eClA_of (by simp only [vI, eClL, eClV, List.all_cons, List.all_nil, Bool.and_true, Bool.and_eq_true, Bool.true_and, Nat.ble_eq]; first | done | omega) c0) ?_
  intro h1 e1 o1
  have s1 : hSeg h1 a [.inr (7, [.null, .null, .null, vI 0, vI 0, vI 0]), .inl (1, 60, .inl (eIA (fun _ => 0)))] := seg_new s0 rfl e1 o1
  have c1 : eClH (a + 2) h1 = true := eClH_new c0 e1 rfl o1
  have f1 : ∀ i, i < a → h1 i = h i := fun i hi => (o1 i (by omega)).trans (f0 i hi)
  refine eW_putfield 12 [.ref (a + 1), .null, .null, vI 0, vI 0, vI 0] rfl rfl (Nat.ble_eq_true_of_le (by omega)) rfl (show h1 a = .inr (7, [.null, .null, .null, vI 0, vI 0, vI 0]) from s1 0 _ rfl) rfl rfl ?_
  intro h2 e2 o2
  have s2 : hSeg h2 a [.inr (7, [.ref (a + 1), .null, .null, vI 0, vI 0, vI 0]), .inl (1, 60, .inl (eIA (fun _ => 0)))] := seg_put 0 s1 rfl e2 o2
  have c2 : eClH (a + 2) h2 = true := eClH_up c1 e2 (by simp only [vI, eClE, List.all_cons, List.all_nil, eClV, Bool.and_true, Bool.true_and, Bool.and_eq_true, Nat.ble_eq]; first | done | omega) o2
  have f2 : ∀ i, i < a → h2 i = h i := fun i hi => (o2 i (by omega)).trans (f1 i hi)
  refine eW_aload_n 13 rfl rfl rfl ?_
  refine eW_bipush 15 rfl rfl 30 rfl ?_
  refine eW_newX 17 1 (.inl (eIA (fun _ => 0))) rfl rfl (fun _ => rfl) (by omega) (eClA_of (by simp only [vI, eClL, eClV, List.all_cons, List.all_nil, Bool.and_true, Bool.and_eq_true, Bool.true_and, Nat.ble_eq]; first | done | omega) c2) ?_
  intro h3 e3 o3
  have s3 : hSeg h3 a [.inr (7, [.ref (a + 1), .null, .null, vI 0, vI 0, vI 0]), .inl (1, 60, .inl (eIA (fun _ => 0))), .inl (1, 30, .inl (eIA (fun _ => 0)))] := seg_new s2 rfl e3 o3
  have c3 : eClH (a + 3) h3 = true := eClH_new c2 e3 rfl o3
  have f3 : ∀ i, i < a → h3 i = h i := fun i hi => (o3 i (by omega)).trans (f2 i hi)
  refine eW_putfield 20 [.ref (a + 1), .ref (a + 2), .null, vI 0, vI 0, vI 0] rfl rfl (Nat.ble_eq_true_of_le (by omega)) rfl (show h3 a = .inr (7, [.ref (a + 1), .null, .null, vI 0, vI 0, vI 0]) from s3 0 _ rfl) rfl rfl ?_
  intro h4 e4 o4
  have s4 : hSeg h4 a [.inr (7, [.ref (a + 1), .ref (a + 2), .null, vI 0, vI 0, vI 0]), .inl (1, 60, .inl (eIA (fun _ => 0))), .inl (1, 30, .inl (eIA (fun _ => 0)))] := seg_put 0 s3 rfl e4 o4
  have c4 : eClH (a + 3) h4 = true := eClH_up c3 e4 (by simp only [vI, eClE, List.all_cons, List.all_nil, eClV, Bool.and_true, Bool.true_and, Bool.and_eq_true, Nat.ble_eq]; first | done | omega) o4
  have f4 : ∀ i, i < a → h4 i = h i := fun i hi => (o4 i (by omega)).trans (f3 i hi)
  refine eW_aload_n 21 rfl rfl rfl ?_
  refine eW_bipush 23 rfl rfl 90 rfl ?_
  refine eW_newX 25 0 (.inl (eIA (fun _ => 0))) rfl rfl (fun _ => rfl) (by omega) (eClA_of (by simp only [vI, eClL, eClV, List.all_cons, List.all_nil, Bool.and_true, Bool.and_eq_true, Bool.true_and, Nat.ble_eq]; first | done | omega) c4) ?_
  intro h5 e5 o5
  have s5 : hSeg h5 a [.inr (7, [.ref (a + 1), .ref (a + 2), .null, vI 0, vI 0, vI 0]), .inl (1, 60, .inl (eIA (fun _ => 0))), .inl (1, 30, .inl (eIA (fun _ => 0))), .inl (0, 90, .inl (eIA (fun _ => 0)))] := seg_new s4 rfl e5 o5
  have c5 : eClH (a + 4) h5 = true := eClH_new c4 e5 rfl o5
  have f5 : ∀ i, i < a → h5 i = h i := fun i hi => (o5 i (by omega)).trans (f4 i hi)
  refine eW_putfield 28 [.ref (a + 1), .ref (a + 2), .ref (a + 3), vI 0, vI 0, vI 0] rfl rfl (Nat.ble_eq_true_of_le (by omega)) rfl (show h5 a = .inr (7, [.ref (a + 1), .ref (a + 2), .null, vI 0, vI 0, vI 0]) from s5 0 _ rfl) rfl rfl ?_
  intro h6 e6 o6
  have s6 : hSeg h6 a [.inr (7, [.ref (a + 1), .ref (a + 2), .ref (a + 3), vI 0, vI 0, vI 0]), .inl (1, 60, .inl (eIA (fun _ => 0))), .inl (1, 30, .inl (eIA (fun _ => 0))), .inl (0, 90, .inl (eIA (fun _ => 0)))] := seg_put 0 s5 rfl e6 o6
  have c6 : eClH (a + 4) h6 = true := eClH_up c5 e6 (by simp only [vI, eClE, List.all_cons, List.all_nil, eClV, Bool.and_true, Bool.true_and, Bool.and_eq_true, Nat.ble_eq]; first | done | omega) o6
  have f6 : ∀ i, i < a → h6 i = h i := fun i hi => (o6 i (by omega)).trans (f5 i hi)
  refine eW_ret rfl rfl ?_
  exact ⟨h6, rfl, s6, f6, c6⟩
theorem c_X1_init {d a : Nat} {h : eHp} (s0 : hSeg h a [.inr (5, [.null, vI 0, vI 0])]) (c0 : eClH (a + 1) h = true) : eSp (d + 3) eM_X1_init [.ref a] (a + 1) h (cC a [.inr (5, [.ref (a + 1), vI 0, vI 0]), .inl (5, 8, .inr (.inr (.inr (.inr (va_up (va_up (va_up (va_up (va_up (va_up (va_up (va_up (fun _ => none) 0 (some (a + 2))) 1 (some (a + 6))) 2 (some (a + 10))) 3 (some (a + 14))) 4 (some (a + 18))) 5 (some (a + 22))) 6 (some (a + 26))) 7 (some (a + 30))))))), .inr (4, [.ref (a + 3), .ref (a + 4), .ref (a + 5), vI 0, vI 0, vI 0, vI 0, vI 0]), .inl (0, 40, .inl (eIA (fun _ => 0))), .inl (0, 6, .inl (eIA (fun _ => 0))), .inl (0, 8, .inl (eIA (fun _ => 0))), .inr (4, [.ref (a + 7), .ref (a + 8), .ref (a + 9), vI 0, vI 0, vI 0, vI 0, vI 0]), .inl (0, 40, .inl (eIA (fun _ => 0))), .inl (0, 6, .inl (eIA (fun _ => 0))), .inl (0, 8, .inl (eIA (fun _ => 0))), .inr (4, [.ref (a + 11), .ref (a + 12), .ref (a + 13), vI 0, vI 0, vI 0, vI 0, vI 0]), .inl (0, 40, .inl (eIA (fun _ => 0))), .inl (0, 6, .inl (eIA (fun _ => 0))), .inl (0, 8, .inl (eIA (fun _ => 0))), .inr (4, [.ref (a + 15), .ref (a + 16), .ref (a + 17), vI 0, vI 0, vI 0, vI 0, vI 0]), .inl (0, 40, .inl (eIA (fun _ => 0))), .inl (0, 6, .inl (eIA (fun _ => 0))), .inl (0, 8, .inl (eIA (fun _ => 0))), .inr (4, [.ref (a + 19), .ref (a + 20), .ref (a + 21), vI 0, vI 0, vI 0, vI 0, vI 0]), .inl (0, 40, .inl (eIA (fun _ => 0))), .inl (0, 6, .inl (eIA (fun _ => 0))), .inl (0, 8, .inl (eIA (fun _ => 0))), .inr (4, [.ref (a + 23), .ref (a + 24), .ref (a + 25), vI 0, vI 0, vI 0, vI 0, vI 0]), .inl (0, 40, .inl (eIA (fun _ => 0))), .inl (0, 6, .inl (eIA (fun _ => 0))), .inl (0, 8, .inl (eIA (fun _ => 0))), .inr (4, [.ref (a + 27), .ref (a + 28), .ref (a + 29), vI 0, vI 0, vI 0, vI 0, vI 0]), .inl (0, 40, .inl (eIA (fun _ => 0))), .inl (0, 6, .inl (eIA (fun _ => 0))), .inl (0, 8, .inl (eIA (fun _ => 0))), .inr (4, [.ref (a + 31), .ref (a + 32), .ref (a + 33), vI 0, vI 0, vI 0, vI 0, vI 0]), .inl (0, 40, .inl (eIA (fun _ => 0))), .inl (0, 6, .inl (eIA (fun _ => 0))), .inl (0, 8, .inl (eIA (fun _ => 0)))] 33 504 h) := by
  refine eSp_of [(0, .ref a)] rfl rfl ?_
  have f0 : ∀ i, i < a → h i = h i := fun _ _ => rfl
  refine eW_aload_n 1 rfl rfl rfl ?_
  refine eW_objInit 4 rfl rfl rfl rfl ?_
  refine eW_aload_n 5 rfl rfl rfl ?_
  refine eW_bipush 7 rfl rfl 8 rfl ?_
  refine eW_anew 10 rfl rfl rfl (by omega) (eClA_of (by simp only [vI, eClL, eClV, List.all_cons, List.all_nil, Bool.and_true, Bool.and_eq_true, Bool.true_and, Nat.ble_eq]; first | done | omega) c0) ?_
  intro h1 e1 o1
  have s1 : hSeg h1 a [.inr (5, [.null, vI 0, vI 0]), .inl (5, 8, .inr (.inr (.inr (.inr (fun _ => none)))))] := seg_new s0 rfl e1 o1
  have c1 : eClH (a + 2) h1 = true := eClH_new c0 e1 (eClO_no (a + 2) 8) o1
  have f1 : ∀ i, i < a → h1 i = h i := fun i hi => (o1 i (by omega)).trans (f0 i hi)
  refine eW_putfield 13 [.ref (a + 1), vI 0, vI 0] rfl rfl (Nat.ble_eq_true_of_le (by omega)) rfl (show h1 a = .inr (5, [.null, vI 0, vI 0]) from s1 0 _ rfl) rfl rfl ?_
  intro h2 e2 o2
  have s2 : hSeg h2 a [.inr (5, [.ref (a + 1), vI 0, vI 0]), .inl (5, 8, .inr (.inr (.inr (.inr (fun _ => none)))))] := seg_put 0 s1 rfl e2 o2
  have c2 : eClH (a + 2) h2 = true := eClH_up c1 e2 (by simp only [vI, eClE, List.all_cons, List.all_nil, eClV, Bool.and_true, Bool.true_and, Bool.and_eq_true, Nat.ble_eq]; first | done | omega) o2
  have f2 : ∀ i, i < a → h2 i = h i := fun i hi => (o2 i (by omega)).trans (f1 i hi)
  refine eW_iconst 14 rfl rfl ?_
  refine eW_istore_n 15 rfl rfl [(1, vI 0), (0, .ref a)] rfl rfl ?_
  refine eW_iload_n 16 rfl rfl rfl ?_
  refine eW_bipush 18 rfl rfl 8 rfl ?_
  refine eW_icmp_ge 21 rfl rfl (by unfold i32; omega) (by unfold i32; omega) (fun c9 => absurd c9 (by omega)) (fun c9 => ?_)
  refine eW_aload_n 22 rfl rfl rfl ?_
  refine eW_getfield 25 rfl rfl (Nat.ble_eq_true_of_le (by omega)) rfl (show h2 a = .inr (5, [.ref (a + 1), vI 0, vI 0]) from s2 0 _ rfl) rfl ⟨rfl, fun _ h9 => nomatch h9⟩ ?_
  refine eW_iload_n 26 rfl rfl rfl ?_
  refine eW_newO 29 [.null, .null, .null, vI 0, vI 0, vI 0, vI 0, vI 0] rfl rfl rfl rfl (eClA_of (by simp only [vI, eClL, eClV, List.all_cons, List.all_nil, Bool.and_true, Bool.and_eq_true, Bool.true_and, Nat.ble_eq]; first | done | omega) c2) ?_
  intro h3 e3 o3
  have s3 : hSeg h3 a [.inr (5, [.ref (a + 1), vI 0, vI 0]), .inl (5, 8, .inr (.inr (.inr (.inr (fun _ => none))))), .inr (4, [.null, .null, .null, vI 0, vI 0, vI 0, vI 0, vI 0])] := seg_new s2 rfl e3 o3
  have c3 : eClH (a + 3) h3 = true := eClH_new c2 e3 (by simp only [vI, eClE, List.all_cons, List.all_nil, eClV, Bool.and_true, Bool.true_and, Bool.and_eq_true, Nat.ble_eq]; first | done | omega) o3
  have f3 : ∀ i, i < a → h3 i = h i := fun i hi => (o3 i (by omega)).trans (f2 i hi)
  refine eW_dup 30 rfl rfl rfl ?_
  refine eW_callM 33 [.ref (a + 2)] [.ref (a + 2), vI 0, .ref (a + 1)] (eS_callI rfl rfl (Or.inr rfl) rfl (Nat.ble_eq_true_of_le (by omega)) rfl) rfl rfl rfl (by simp only [vI, eClL, eClV, List.all_cons, List.all_nil, Bool.and_true, Bool.and_eq_true, Bool.true_and, Nat.ble_eq]; first | done | omega) (cC_M (a + 6) rfl (c_X0_init (d := d + 1) (seg_one (show h3 (a + 2) = .inr (4, [.null, .null, .null, vI 0, vI 0, vI 0, vI 0, vI 0]) from s3 2 _ rfl)) c3)) ?_
  intro v4 n4 h4 a4 b4 g4
  obtain ⟨rfl, rfl, rfl, rfl, t4, u4, c4⟩ := g4
  have s4 : hSeg h4 a [.inr (5, [.ref (a + 1), vI 0, vI 0]), .inl (5, 8, .inr (.inr (.inr (.inr (fun _ => none))))), .inr (4, [.ref (a + 3), .ref (a + 4), .ref (a + 5), vI 0, vI 0, vI 0, vI 0, vI 0]), .inl (0, 40, .inl (eIA (fun _ => 0))), .inl (0, 6, .inl (eIA (fun _ => 0))), .inl (0, 8, .inl (eIA (fun _ => 0)))] := seg_app (cs := [.inr (5, [.ref (a + 1), vI 0, vI 0]), .inl (5, 8, .inr (.inr (.inr (.inr (fun _ => none)))))]) (seg_pre (ds := [.inr (4, [.null, .null, .null, vI 0, vI 0, vI 0, vI 0, vI 0])]) s3) rfl t4 u4
  have f4 : ∀ i, i < a → h4 i = h i := fun i hi => (u4 i (by omega)).trans (f3 i hi)
  show eWp _ _ _ (33, [(1, vI 0), (0, .ref a)], [.ref (a + 2), vI 0, .ref (a + 1)], a + 6, h4, _, _) _
  refine eW_aastore 34 rfl rfl (Nat.ble_eq_true_of_le (by omega)) (Nat.ble_eq_true_of_le (by omega)) (show h4 (a + 2) = .inr (4, [.ref (a + 3), .ref (a + 4), .ref (a + 5), vI 0, vI 0, vI 0, vI 0, vI 0]) from s4 2 _ rfl) (show h4 (a + 1) = .inl (5, 8, .inr (.inr (.inr (.inr (fun _ => none))))) from s4 1 _ rfl) (by omega) (by omega) (by unfold i32; omega) ?_
  intro h5 e5 o5
  have s5 : hSeg h5 a [.inr (5, [.ref (a + 1), vI 0, vI 0]), .inl (5, 8, .inr (.inr (.inr (.inr (va_up (fun _ => none) 0 (some (a + 2))))))), .inr (4, [.ref (a + 3), .ref (a + 4), .ref (a + 5), vI 0, vI 0, vI 0, vI 0, vI 0]), .inl (0, 40, .inl (eIA (fun _ => 0))), .inl (0, 6, .inl (eIA (fun _ => 0))), .inl (0, 8, .inl (eIA (fun _ => 0)))] := seg_put 1 s4 rfl e5 o5
  have c5 : eClH (a + 6) h5 = true := eClH_up c4 e5 (eClO_up (by omega) (eClH_at c4 (show a + 1 < a + 6 by omega) (show h4 (a + 1) = .inl (5, 8, .inr (.inr (.inr (.inr (fun _ => none))))) from s4 1 _ rfl))) o5
  have f5 : ∀ i, i < a → h5 i = h i := fun i hi => (o5 i (by omega)).trans (f4 i hi)
  refine eW_iinc 37 rfl rfl [(1, vI 1), (0, .ref a)] rfl rfl rfl ?_
  refine eW_goto rfl ?_
  refine eW_iload_n 16 rfl rfl rfl ?_
  refine eW_bipush 18 rfl rfl 8 rfl ?_
  refine eW_icmp_ge 21 rfl rfl (by unfold i32; omega) (by unfold i32; omega) (fun c9 => absurd c9 (by omega)) (fun c9 => ?_)
  refine eW_aload_n 22 rfl rfl rfl ?_
  refine eW_getfield 25 rfl rfl (Nat.ble_eq_true_of_le (by omega)) rfl (show h5 a = .inr (5, [.ref (a + 1), vI 0, vI 0]) from s5 0 _ rfl) rfl ⟨rfl, fun _ h9 => nomatch h9⟩ ?_
  refine eW_iload_n 26 rfl rfl rfl ?_
  refine eW_newO 29 [.null, .null, .null, vI 0, vI 0, vI 0, vI 0, vI 0] rfl rfl rfl rfl (eClA_of (by simp only [vI, eClL, eClV, List.all_cons, List.all_nil, Bool.and_true, Bool.and_eq_true, Bool.true_and, Nat.ble_eq]; first | done | omega) c5) ?_
  intro h6 e6 o6
  have s6 : hSeg h6 a [.inr (5, [.ref (a + 1), vI 0, vI 0]), .inl (5, 8, .inr (.inr (.inr (.inr (va_up (fun _ => none) 0 (some (a + 2))))))), .inr (4, [.ref (a + 3), .ref (a + 4), .ref (a + 5), vI 0, vI 0, vI 0, vI 0, vI 0]), .inl (0, 40, .inl (eIA (fun _ => 0))), .inl (0, 6, .inl (eIA (fun _ => 0))), .inl (0, 8, .inl (eIA (fun _ => 0))), .inr (4, [.null, .null, .null, vI 0, vI 0, vI 0, vI 0, vI 0])] := seg_new s5 rfl e6 o6
  have c6 : eClH (a + 7) h6 = true := eClH_new c5 e6 (by simp only [vI, eClE, List.all_cons, List.all_nil, eClV, Bool.and_true, Bool.true_and, Bool.and_eq_true, Nat.ble_eq]; first | done | omega) o6
  have f6 : ∀ i, i < a → h6 i = h i := fun i hi => (o6 i (by omega)).trans (f5 i hi)
  refine eW_dup 30 rfl rfl rfl ?_
  refine eW_callM 33 [.ref (a + 6)] [.ref (a + 6), vI 1, .ref (a + 1)] (eS_callI rfl rfl (Or.inr rfl) rfl (Nat.ble_eq_true_of_le (by omega)) rfl) rfl rfl rfl (by simp only [vI, eClL, eClV, List.all_cons, List.all_nil, Bool.and_true, Bool.and_eq_true, Bool.true_and, Nat.ble_eq]; first | done | omega) (cC_M (a + 10) rfl (c_X0_init (d := d + 1) (seg_one (show h6 (a + 6) = .inr (4, [.null, .null, .null, vI 0, vI 0, vI 0, vI 0, vI 0]) from s6 6 _ rfl)) c6)) ?_
  intro v7 n7 h7 a7 b7 g7
  obtain ⟨rfl, rfl, rfl, rfl, t7, u7, c7⟩ := g7
  have s7 : hSeg h7 a [.inr (5, [.ref (a + 1), vI 0, vI 0]), .inl (5, 8, .inr (.inr (.inr (.inr (va_up (fun _ => none) 0 (some (a + 2))))))), .inr (4, [.ref (a + 3), .ref (a + 4), .ref (a + 5), vI 0, vI 0, vI 0, vI 0, vI 0]), .inl (0, 40, .inl (eIA (fun _ => 0))), .inl (0, 6, .inl (eIA (fun _ => 0))), .inl (0, 8, .inl (eIA (fun _ => 0))), .inr (4, [.ref (a + 7), .ref (a + 8), .ref (a + 9), vI 0, vI 0, vI 0, vI 0, vI 0]), .inl (0, 40, .inl (eIA (fun _ => 0))), .inl (0, 6, .inl (eIA (fun _ => 0))), .inl (0, 8, .inl (eIA (fun _ => 0)))] := seg_app (cs := [.inr (5, [.ref (a + 1), vI 0, vI 0]), .inl (5, 8, .inr (.inr (.inr (.inr (va_up (fun _ => none) 0 (some (a + 2))))))), .inr (4, [.ref (a + 3), .ref (a + 4), .ref (a + 5), vI 0, vI 0, vI 0, vI 0, vI 0]), .inl (0, 40, .inl (eIA (fun _ => 0))), .inl (0, 6, .inl (eIA (fun _ => 0))), .inl (0, 8, .inl (eIA (fun _ => 0)))]) (seg_pre (ds := [.inr (4, [.null, .null, .null, vI 0, vI 0, vI 0, vI 0, vI 0])]) s6) rfl t7 u7
  have f7 : ∀ i, i < a → h7 i = h i := fun i hi => (u7 i (by omega)).trans (f6 i hi)
  show eWp _ _ _ (33, [(1, vI 1), (0, .ref a)], [.ref (a + 6), vI 1, .ref (a + 1)], a + 10, h7, _, _) _
  refine eW_aastore 34 rfl rfl (Nat.ble_eq_true_of_le (by omega)) (Nat.ble_eq_true_of_le (by omega)) (show h7 (a + 6) = .inr (4, [.ref (a + 7), .ref (a + 8), .ref (a + 9), vI 0, vI 0, vI 0, vI 0, vI 0]) from s7 6 _ rfl) (show h7 (a + 1) = .inl (5, 8, .inr (.inr (.inr (.inr (va_up (fun _ => none) 0 (some (a + 2))))))) from s7 1 _ rfl) (by omega) (by omega) (by unfold i32; omega) ?_
  intro h8 e8 o8
  have s8 : hSeg h8 a [.inr (5, [.ref (a + 1), vI 0, vI 0]), .inl (5, 8, .inr (.inr (.inr (.inr (va_up (va_up (fun _ => none) 0 (some (a + 2))) 1 (some (a + 6))))))), .inr (4, [.ref (a + 3), .ref (a + 4), .ref (a + 5), vI 0, vI 0, vI 0, vI 0, vI 0]), .inl (0, 40, .inl (eIA (fun _ => 0))), .inl (0, 6, .inl (eIA (fun _ => 0))), .inl (0, 8, .inl (eIA (fun _ => 0))), .inr (4, [.ref (a + 7), .ref (a + 8), .ref (a + 9), vI 0, vI 0, vI 0, vI 0, vI 0]), .inl (0, 40, .inl (eIA (fun _ => 0))), .inl (0, 6, .inl (eIA (fun _ => 0))), .inl (0, 8, .inl (eIA (fun _ => 0)))] := seg_put 1 s7 rfl e8 o8
  have c8 : eClH (a + 10) h8 = true := eClH_up c7 e8 (eClO_up (by omega) (eClH_at c7 (show a + 1 < a + 10 by omega) (show h7 (a + 1) = .inl (5, 8, .inr (.inr (.inr (.inr (va_up (fun _ => none) 0 (some (a + 2))))))) from s7 1 _ rfl))) o8
  have f8 : ∀ i, i < a → h8 i = h i := fun i hi => (o8 i (by omega)).trans (f7 i hi)
  refine eW_iinc 37 rfl rfl [(1, vI 2), (0, .ref a)] rfl rfl rfl ?_
  refine eW_goto rfl ?_
  refine eW_iload_n 16 rfl rfl rfl ?_
  refine eW_bipush 18 rfl rfl 8 rfl ?_
  refine eW_icmp_ge 21 rfl rfl (by unfold i32; omega) (by unfold i32; omega) (fun c9 => absurd c9 (by omega)) (fun c9 => ?_)
  refine eW_aload_n 22 rfl rfl rfl ?_
  refine eW_getfield 25 rfl rfl (Nat.ble_eq_true_of_le (by omega)) rfl (show h8 a = .inr (5, [.ref (a + 1), vI 0, vI 0]) from s8 0 _ rfl) rfl ⟨rfl, fun _ h9 => nomatch h9⟩ ?_
  refine eW_iload_n 26 rfl rfl rfl ?_
  refine eW_newO 29 [.null, .null, .null, vI 0, vI 0, vI 0, vI 0, vI 0] rfl rfl rfl rfl (eClA_of (by simp only [vI, eClL, eClV, List.all_cons, List.all_nil, Bool.and_true, Bool.and_eq_true, Bool.true_and, Nat.ble_eq]; first | done | omega) c8) ?_
  intro h9 e9 o9
  have s9 : hSeg h9 a [.inr (5, [.ref (a + 1), vI 0, vI 0]), .inl (5, 8, .inr (.inr (.inr (.inr (va_up (va_up (fun _ => none) 0 (some (a + 2))) 1 (some (a + 6))))))), .inr (4, [.ref (a + 3), .ref (a + 4), .ref (a + 5), vI 0, vI 0, vI 0, vI 0, vI 0]), .inl (0, 40, .inl (eIA (fun _ => 0))), .inl (0, 6, .inl (eIA (fun _ => 0))), .inl (0, 8, .inl (eIA (fun _ => 0))), .inr (4, [.ref (a + 7), .ref (a + 8), .ref (a + 9), vI 0, vI 0, vI 0, vI 0, vI 0]), .inl (0, 40, .inl (eIA (fun _ => 0))), .inl (0, 6, .inl (eIA (fun _ => 0))), .inl (0, 8, .inl (eIA (fun _ => 0))), .inr (4, [.null, .null, .null, vI 0, vI 0, vI 0, vI 0, vI 0])] := seg_new s8 rfl e9 o9
  have c9 : eClH (a + 11) h9 = true := eClH_new c8 e9 (by simp only [vI, eClE, List.all_cons, List.all_nil, eClV, Bool.and_true, Bool.true_and, Bool.and_eq_true, Nat.ble_eq]; first | done | omega) o9
  have f9 : ∀ i, i < a → h9 i = h i := fun i hi => (o9 i (by omega)).trans (f8 i hi)
  refine eW_dup 30 rfl rfl rfl ?_
  refine eW_callM 33 [.ref (a + 10)] [.ref (a + 10), vI 2, .ref (a + 1)] (eS_callI rfl rfl (Or.inr rfl) rfl (Nat.ble_eq_true_of_le (by omega)) rfl) rfl rfl rfl (by simp only [vI, eClL, eClV, List.all_cons, List.all_nil, Bool.and_true, Bool.and_eq_true, Bool.true_and, Nat.ble_eq]; first | done | omega) (cC_M (a + 14) rfl (c_X0_init (d := d + 1) (seg_one (show h9 (a + 10) = .inr (4, [.null, .null, .null, vI 0, vI 0, vI 0, vI 0, vI 0]) from s9 10 _ rfl)) c9)) ?_
  intro v10 n10 h10 a10 b10 g10
  obtain ⟨rfl, rfl, rfl, rfl, t10, u10, c10⟩ := g10
  have s10 : hSeg h10 a [.inr (5, [.ref (a + 1), vI 0, vI 0]), .inl (5, 8, .inr (.inr (.inr (.inr (va_up (va_up (fun _ => none) 0 (some (a + 2))) 1 (some (a + 6))))))), .inr (4, [.ref (a + 3), .ref (a + 4), .ref (a + 5), vI 0, vI 0, vI 0, vI 0, vI 0]), .inl (0, 40, .inl (eIA (fun _ => 0))), .inl (0, 6, .inl (eIA (fun _ => 0))), .inl (0, 8, .inl (eIA (fun _ => 0))), .inr (4, [.ref (a + 7), .ref (a + 8), .ref (a + 9), vI 0, vI 0, vI 0, vI 0, vI 0]), .inl (0, 40, .inl (eIA (fun _ => 0))), .inl (0, 6, .inl (eIA (fun _ => 0))), .inl (0, 8, .inl (eIA (fun _ => 0))), .inr (4, [.ref (a + 11), .ref (a + 12), .ref (a + 13), vI 0, vI 0, vI 0, vI 0, vI 0]), .inl (0, 40, .inl (eIA (fun _ => 0))), .inl (0, 6, .inl (eIA (fun _ => 0))), .inl (0, 8, .inl (eIA (fun _ => 0)))] := seg_app (cs := [.inr (5, [.ref (a + 1), vI 0, vI 0]), .inl (5, 8, .inr (.inr (.inr (.inr (va_up (va_up (fun _ => none) 0 (some (a + 2))) 1 (some (a + 6))))))), .inr (4, [.ref (a + 3), .ref (a + 4), .ref (a + 5), vI 0, vI 0, vI 0, vI 0, vI 0]), .inl (0, 40, .inl (eIA (fun _ => 0))), .inl (0, 6, .inl (eIA (fun _ => 0))), .inl (0, 8, .inl (eIA (fun _ => 0))), .inr (4, [.ref (a + 7), .ref (a + 8), .ref (a + 9), vI 0, vI 0, vI 0, vI 0, vI 0]), .inl (0, 40, .inl (eIA (fun _ => 0))), .inl (0, 6, .inl (eIA (fun _ => 0))), .inl (0, 8, .inl (eIA (fun _ => 0)))]) (seg_pre (ds := [.inr (4, [.null, .null, .null, vI 0, vI 0, vI 0, vI 0, vI 0])]) s9) rfl t10 u10
  have f10 : ∀ i, i < a → h10 i = h i := fun i hi => (u10 i (by omega)).trans (f9 i hi)
  show eWp _ _ _ (33, [(1, vI 2), (0, .ref a)], [.ref (a + 10), vI 2, .ref (a + 1)], a + 14, h10, _, _) _
  refine eW_aastore 34 rfl rfl (Nat.ble_eq_true_of_le (by omega)) (Nat.ble_eq_true_of_le (by omega)) (show h10 (a + 10) = .inr (4, [.ref (a + 11), .ref (a + 12), .ref (a + 13), vI 0, vI 0, vI 0, vI 0, vI 0]) from s10 10 _ rfl) (show h10 (a + 1) = .inl (5, 8, .inr (.inr (.inr (.inr (va_up (va_up (fun _ => none) 0 (some (a + 2))) 1 (some (a + 6))))))) from s10 1 _ rfl) (by omega) (by omega) (by unfold i32; omega) ?_
  intro h11 e11 o11
  have s11 : hSeg h11 a [.inr (5, [.ref (a + 1), vI 0, vI 0]), .inl (5, 8, .inr (.inr (.inr (.inr (va_up (va_up (va_up (fun _ => none) 0 (some (a + 2))) 1 (some (a + 6))) 2 (some (a + 10))))))), .inr (4, [.ref (a + 3), .ref (a + 4), .ref (a + 5), vI 0, vI 0, vI 0, vI 0, vI 0]), .inl (0, 40, .inl (eIA (fun _ => 0))), .inl (0, 6, .inl (eIA (fun _ => 0))), .inl (0, 8, .inl (eIA (fun _ => 0))), .inr (4, [.ref (a + 7), .ref (a + 8), .ref (a + 9), vI 0, vI 0, vI 0, vI 0, vI 0]), .inl (0, 40, .inl (eIA (fun _ => 0))), .inl (0, 6, .inl (eIA (fun _ => 0))), .inl (0, 8, .inl (eIA (fun _ => 0))), .inr (4, [.ref (a + 11), .ref (a + 12), .ref (a + 13), vI 0, vI 0, vI 0, vI 0, vI 0]), .inl (0, 40, .inl (eIA (fun _ => 0))), .inl (0, 6, .inl (eIA (fun _ => 0))), .inl (0, 8, .inl (eIA (fun _ => 0)))] := seg_put 1 s10 rfl e11 o11
  have c11 : eClH (a + 14) h11 = true := eClH_up c10 e11 (eClO_up (by omega) (eClH_at c10 (show a + 1 < a + 14 by omega) (show h10 (a + 1) = .inl (5, 8, .inr (.inr (.inr (.inr (va_up (va_up (fun _ => none) 0 (some (a + 2))) 1 (some (a + 6))))))) from s10 1 _ rfl))) o11
  have f11 : ∀ i, i < a → h11 i = h i := fun i hi => (o11 i (by omega)).trans (f10 i hi)
  refine eW_iinc 37 rfl rfl [(1, vI 3), (0, .ref a)] rfl rfl rfl ?_
  refine eW_goto rfl ?_
  refine eW_iload_n 16 rfl rfl rfl ?_
  refine eW_bipush 18 rfl rfl 8 rfl ?_
  refine eW_icmp_ge 21 rfl rfl (by unfold i32; omega) (by unfold i32; omega) (fun c9 => absurd c9 (by omega)) (fun c9 => ?_)
  refine eW_aload_n 22 rfl rfl rfl ?_
  refine eW_getfield 25 rfl rfl (Nat.ble_eq_true_of_le (by omega)) rfl (show h11 a = .inr (5, [.ref (a + 1), vI 0, vI 0]) from s11 0 _ rfl) rfl ⟨rfl, fun _ h9 => nomatch h9⟩ ?_
  refine eW_iload_n 26 rfl rfl rfl ?_
  refine eW_newO 29 [.null, .null, .null, vI 0, vI 0, vI 0, vI 0, vI 0] rfl rfl rfl rfl (eClA_of (by simp only [vI, eClL, eClV, List.all_cons, List.all_nil, Bool.and_true, Bool.and_eq_true, Bool.true_and, Nat.ble_eq]; first | done | omega) c11) ?_
  intro h12 e12 o12
  have s12 : hSeg h12 a [.inr (5, [.ref (a + 1), vI 0, vI 0]), .inl (5, 8, .inr (.inr (.inr (.inr (va_up (va_up (va_up (fun _ => none) 0 (some (a + 2))) 1 (some (a + 6))) 2 (some (a + 10))))))), .inr (4, [.ref (a + 3), .ref (a + 4), .ref (a + 5), vI 0, vI 0, vI 0, vI 0, vI 0]), .inl (0, 40, .inl (eIA (fun _ => 0))), .inl (0, 6, .inl (eIA (fun _ => 0))), .inl (0, 8, .inl (eIA (fun _ => 0))), .inr (4, [.ref (a + 7), .ref (a + 8), .ref (a + 9), vI 0, vI 0, vI 0, vI 0, vI 0]), .inl (0, 40, .inl (eIA (fun _ => 0))), .inl (0, 6, .inl (eIA (fun _ => 0))), .inl (0, 8, .inl (eIA (fun _ => 0))), .inr (4, [.ref (a + 11), .ref (a + 12), .ref (a + 13), vI 0, vI 0, vI 0, vI 0, vI 0]), .inl (0, 40, .inl (eIA (fun _ => 0))), .inl (0, 6, .inl (eIA (fun _ => 0))), .inl (0, 8, .inl (eIA (fun _ => 0))), .inr (4, [.null, .null, .null, vI 0, vI 0, vI 0, vI 0, vI 0])] := seg_new s11 rfl e12 o12
  have c12 : eClH (a + 15) h12 = true := eClH_new c11 e12 (by simp only [vI, eClE, List.all_cons, List.all_nil, eClV, Bool.and_true, Bool.true_and, Bool.and_eq_true, Nat.ble_eq]; first | done | omega) o12
  have f12 : ∀ i, i < a → h12 i = h i := fun i hi => (o12 i (by omega)).trans (f11 i hi)
  refine eW_dup 30 rfl rfl rfl ?_
  refine eW_callM 33 [.ref (a + 14)] [.ref (a + 14), vI 3, .ref (a + 1)] (eS_callI rfl rfl (Or.inr rfl) rfl (Nat.ble_eq_true_of_le (by omega)) rfl) rfl rfl rfl (by simp only [vI, eClL, eClV, List.all_cons, List.all_nil, Bool.and_true, Bool.and_eq_true, Bool.true_and, Nat.ble_eq]; first | done | omega) (cC_M (a + 18) rfl (c_X0_init (d := d + 1) (seg_one (show h12 (a + 14) = .inr (4, [.null, .null, .null, vI 0, vI 0, vI 0, vI 0, vI 0]) from s12 14 _ rfl)) c12)) ?_
  intro v13 n13 h13 a13 b13 g13
  obtain ⟨rfl, rfl, rfl, rfl, t13, u13, c13⟩ := g13
  have s13 : hSeg h13 a [.inr (5, [.ref (a + 1), vI 0, vI 0]), .inl (5, 8, .inr (.inr (.inr (.inr (va_up (va_up (va_up (fun _ => none) 0 (some (a + 2))) 1 (some (a + 6))) 2 (some (a + 10))))))), .inr (4, [.ref (a + 3), .ref (a + 4), .ref (a + 5), vI 0, vI 0, vI 0, vI 0, vI 0]), .inl (0, 40, .inl (eIA (fun _ => 0))), .inl (0, 6, .inl (eIA (fun _ => 0))), .inl (0, 8, .inl (eIA (fun _ => 0))), .inr (4, [.ref (a + 7), .ref (a + 8), .ref (a + 9), vI 0, vI 0, vI 0, vI 0, vI 0]), .inl (0, 40, .inl (eIA (fun _ => 0))), .inl (0, 6, .inl (eIA (fun _ => 0))), .inl (0, 8, .inl (eIA (fun _ => 0))), .inr (4, [.ref (a + 11), .ref (a + 12), .ref (a + 13), vI 0, vI 0, vI 0, vI 0, vI 0]), .inl (0, 40, .inl (eIA (fun _ => 0))), .inl (0, 6, .inl (eIA (fun _ => 0))), .inl (0, 8, .inl (eIA (fun _ => 0))), .inr (4, [.ref (a + 15), .ref (a + 16), .ref (a + 17), vI 0, vI 0, vI 0, vI 0, vI 0]), .inl (0, 40, .inl (eIA (fun _ => 0))), .inl (0, 6, .inl (eIA (fun _ => 0))), .inl (0, 8, .inl (eIA (fun _ => 0)))] := seg_app (cs := [.inr (5, [.ref (a + 1), vI 0, vI 0]), .inl (5, 8, .inr (.inr (.inr (.inr (va_up (va_up (va_up (fun _ => none) 0 (some (a + 2))) 1 (some (a + 6))) 2 (some (a + 10))))))), .inr (4, [.ref (a + 3), .ref (a + 4), .ref (a + 5), vI 0, vI 0, vI 0, vI 0, vI 0]), .inl (0, 40, .inl (eIA (fun _ => 0))), .inl (0, 6, .inl (eIA (fun _ => 0))), .inl (0, 8, .inl (eIA (fun _ => 0))), .inr (4, [.ref (a + 7), .ref (a + 8), .ref (a + 9), vI 0, vI 0, vI 0, vI 0, vI 0]), .inl (0, 40, .inl (eIA (fun _ => 0))), .inl (0, 6, .inl (eIA (fun _ => 0))), .inl (0, 8, .inl (eIA (fun _ => 0))), .inr (4, [.ref (a + 11), .ref (a + 12), .ref (a + 13), vI 0, vI 0, vI 0, vI 0, vI 0]), .inl (0, 40, .inl (eIA (fun _ => 0))), .inl (0, 6, .inl (eIA (fun _ => 0))), .inl (0, 8, .inl (eIA (fun _ => 0)))]) (seg_pre (ds := [.inr (4, [.null, .null, .null, vI 0, vI 0, vI 0, vI 0, vI 0])]) s12) rfl t13 u13
  have f13 : ∀ i, i < a → h13 i = h i := fun i hi => (u13 i (by omega)).trans (f12 i hi)
  show eWp _ _ _ (33, [(1, vI 3), (0, .ref a)], [.ref (a + 14), vI 3, .ref (a + 1)], a + 18, h13, _, _) _
  refine eW_aastore 34 rfl rfl (Nat.ble_eq_true_of_le (by omega)) (Nat.ble_eq_true_of_le (by omega)) (show h13 (a + 14) = .inr (4, [.ref (a + 15), .ref (a + 16), .ref (a + 17), vI 0, vI 0, vI 0, vI 0, vI 0]) from s13 14 _ rfl) (show h13 (a + 1) = .inl (5, 8, .inr (.inr (.inr (.inr (va_up (va_up (va_up (fun _ => none) 0 (some (a + 2))) 1 (some (a + 6))) 2 (some (a + 10))))))) from s13 1 _ rfl) (by omega) (by omega) (by unfold i32; omega) ?_
  intro h14 e14 o14
  have s14 : hSeg h14 a [.inr (5, [.ref (a + 1), vI 0, vI 0]), .inl (5, 8, .inr (.inr (.inr (.inr (va_up (va_up (va_up (va_up (fun _ => none) 0 (some (a + 2))) 1 (some (a + 6))) 2 (some (a + 10))) 3 (some (a + 14))))))), .inr (4, [.ref (a + 3), .ref (a + 4), .ref (a + 5), vI 0, vI 0, vI 0, vI 0, vI 0]), .inl (0, 40, .inl (eIA (fun _ => 0))), .inl (0, 6, .inl (eIA (fun _ => 0))), .inl (0, 8, .inl (eIA (fun _ => 0))), .inr (4, [.ref (a + 7), .ref (a + 8), .ref (a + 9), vI 0, vI 0, vI 0, vI 0, vI 0]), .inl (0, 40, .inl (eIA (fun _ => 0))), .inl (0, 6, .inl (eIA (fun _ => 0))), .inl (0, 8, .inl (eIA (fun _ => 0))), .inr (4, [.ref (a + 11), .ref (a + 12), .ref (a + 13), vI 0, vI 0, vI 0, vI 0, vI 0]), .inl (0, 40, .inl (eIA (fun _ => 0))), .inl (0, 6, .inl (eIA (fun _ => 0))), .inl (0, 8, .inl (eIA (fun _ => 0))), .inr (4, [.ref (a + 15), .ref (a + 16), .ref (a + 17), vI 0, vI 0, vI 0, vI 0, vI 0]), .inl (0, 40, .inl (eIA (fun _ => 0))), .inl (0, 6, .inl (eIA (fun _ => 0))), .inl (0, 8, .inl (eIA (fun _ => 0)))] := seg_put 1 s13 rfl e14 o14
  have c14 : eClH (a + 18) h14 = true := eClH_up c13 e14 (eClO_up (by omega) (eClH_at c13 (show a + 1 < a + 18 by omega) (show h13 (a + 1) = .inl (5, 8, .inr (.inr (.inr (.inr (va_up (va_up (va_up (fun _ => none) 0 (some (a + 2))) 1 (some (a + 6))) 2 (some (a + 10))))))) from s13 1 _ rfl))) o14
  have f14 : ∀ i, i < a → h14 i = h i := fun i hi => (o14 i (by omega)).trans (f13 i hi)
  refine eW_iinc 37 rfl rfl [(1, vI 4), (0, .ref a)] rfl rfl rfl ?_
  refine eW_goto rfl ?_
  refine eW_iload_n 16 rfl rfl rfl ?_
  refine eW_bipush 18 rfl rfl 8 rfl ?_
  refine eW_icmp_ge 21 rfl rfl (by unfold i32; omega) (by unfold i32; omega) (fun c9 => absurd c9 (by omega)) (fun c9 => ?_)
  refine eW_aload_n 22 rfl rfl rfl ?_
  refine eW_getfield 25 rfl rfl (Nat.ble_eq_true_of_le (by omega)) rfl (show h14 a = .inr (5, [.ref (a + 1), vI 0, vI 0]) from s14 0 _ rfl) rfl ⟨rfl, fun _ h9 => nomatch h9⟩ ?_
  refine eW_iload_n 26 rfl rfl rfl ?_
  refine eW_newO 29 [.null, .null, .null, vI 0, vI 0, vI 0, vI 0, vI 0] rfl rfl rfl rfl (eClA_of (by simp only [vI, eClL, eClV, List.all_cons, List.all_nil, Bool.and_true, Bool.and_eq_true, Bool.true_and, Nat.ble_eq]; first | done | omega) c14) ?_
  intro h15 e15 o15
  have s15 : hSeg h15 a [.inr (5, [.ref (a + 1), vI 0, vI 0]), .inl (5, 8, .inr (.inr (.inr (.inr (va_up (va_up (va_up (va_up (fun _ => none) 0 (some (a + 2))) 1 (some (a + 6))) 2 (some (a + 10))) 3 (some (a + 14))))))), .inr (4, [.ref (a + 3), .ref (a + 4), .ref (a + 5), vI 0, vI 0, vI 0, vI 0, vI 0]), .inl (0, 40, .inl (eIA (fun _ => 0))), .inl (0, 6, .inl (eIA (fun _ => 0))), .inl (0, 8, .inl (eIA (fun _ => 0))), .inr (4, [.ref (a + 7), .ref (a + 8), .ref (a + 9), vI 0, vI 0, vI 0, vI 0, vI 0]), .inl (0, 40, .inl (eIA (fun _ => 0))), .inl (0, 6, .inl (eIA (fun _ => 0))), .inl (0, 8, .inl (eIA (fun _ => 0))), .inr (4, [.ref (a + 11), .ref (a + 12), .ref (a + 13), vI 0, vI 0, vI 0, vI 0, vI 0]), .inl (0, 40, .inl (eIA (fun _ => 0))), .inl (0, 6, .inl (eIA (fun _ => 0))), .inl (0, 8, .inl (eIA (fun _ => 0))), .inr (4, [.ref (a + 15), .ref (a + 16), .ref (a + 17), vI 0, vI 0, vI 0, vI 0, vI 0]), .inl (0, 40, .inl (eIA (fun _ => 0))), .inl (0, 6, .inl (eIA (fun _ => 0))), .inl (0, 8, .inl (eIA (fun _ => 0))), .inr (4, [.null, .null, .null, vI 0, vI 0, vI 0, vI 0, vI 0])] := seg_new s14 rfl e15 o15
  have c15 : eClH (a + 19) h15 = true := eClH_new c14 e15 (by simp only [vI, eClE, List.all_cons, List.all_nil, eClV, Bool.and_true, Bool.true_and, Bool.and_eq_true, Nat.ble_eq]; first | done | omega) o15
  have f15 : ∀ i, i < a → h15 i = h i := fun i hi => (o15 i (by omega)).trans (f14 i hi)
  refine eW_dup 30 rfl rfl rfl ?_
  refine eW_callM 33 [.ref (a + 18)] [.ref (a + 18), vI 4, .ref (a + 1)] (eS_callI rfl rfl (Or.inr rfl) rfl (Nat.ble_eq_true_of_le (by omega)) rfl) rfl rfl rfl (by simp only [vI, eClL, eClV, List.all_cons, List.all_nil, Bool.and_true, Bool.and_eq_true, Bool.true_and, Nat.ble_eq]; first | done | omega) (cC_M (a + 22) rfl (c_X0_init (d := d + 1) (seg_one (show h15 (a + 18) = .inr (4, [.null, .null, .null, vI 0, vI 0, vI 0, vI 0, vI 0]) from s15 18 _ rfl)) c15)) ?_
  intro v16 n16 h16 a16 b16 g16
  obtain ⟨rfl, rfl, rfl, rfl, t16, u16, c16⟩ := g16
  have s16 : hSeg h16 a [.inr (5, [.ref (a + 1), vI 0, vI 0]), .inl (5, 8, .inr (.inr (.inr (.inr (va_up (va_up (va_up (va_up (fun _ => none) 0 (some (a + 2))) 1 (some (a + 6))) 2 (some (a + 10))) 3 (some (a + 14))))))), .inr (4, [.ref (a + 3), .ref (a + 4), .ref (a + 5), vI 0, vI 0, vI 0, vI 0, vI 0]), .inl (0, 40, .inl (eIA (fun _ => 0))), .inl (0, 6, .inl (eIA (fun _ => 0))), .inl (0, 8, .inl (eIA (fun _ => 0))), .inr (4, [.ref (a + 7), .ref (a + 8), .ref (a + 9), vI 0, vI 0, vI 0, vI 0, vI 0]), .inl (0, 40, .inl (eIA (fun _ => 0))), .inl (0, 6, .inl (eIA (fun _ => 0))), .inl (0, 8, .inl (eIA (fun _ => 0))), .inr (4, [.ref (a + 11), .ref (a + 12), .ref (a + 13), vI 0, vI 0, vI 0, vI 0, vI 0]), .inl (0, 40, .inl (eIA (fun _ => 0))), .inl (0, 6, .inl (eIA (fun _ => 0))), .inl (0, 8, .inl (eIA (fun _ => 0))), .inr (4, [.ref (a + 15), .ref (a + 16), .ref (a + 17), vI 0, vI 0, vI 0, vI 0, vI 0]), .inl (0, 40, .inl (eIA (fun _ => 0))), .inl (0, 6, .inl (eIA (fun _ => 0))), .inl (0, 8, .inl (eIA (fun _ => 0))), .inr (4, [.ref (a + 19), .ref (a + 20), .ref (a + 21), vI 0, vI 0, vI 0, vI 0, vI 0]), .inl (0, 40, .inl (eIA (fun _ => 0))), .inl (0, 6, .inl (eIA (fun _ => 0))), .inl (0, 8, .inl (eIA (fun _ => 0)))] := seg_app (cs := [.inr (5, [.ref (a + 1), vI 0, vI 0]), .inl (5, 8, .inr (.inr (.inr (.inr (va_up (va_up (va_up (va_up (fun _ => none) 0 (some (a + 2))) 1 (some (a + 6))) 2 (some (a + 10))) 3 (some (a + 14))))))), .inr (4, [.ref (a + 3), .ref (a + 4), .ref (a + 5), vI 0, vI 0, vI 0, vI 0, vI 0]), .inl (0, 40, .inl (eIA (fun _ => 0))), .inl (0, 6, .inl (eIA (fun _ => 0))), .inl (0, 8, .inl (eIA (fun _ => 0))), .inr (4, [.ref (a + 7), .ref (a + 8), .ref (a + 9), vI 0, vI 0, vI 0, vI 0, vI 0]), .inl (0, 40, .inl (eIA (fun _ => 0))), .inl (0, 6, .inl (eIA (fun _ => 0))), .inl (0, 8, .inl (eIA (fun _ => 0))), .inr (4, [.ref (a + 11), .ref (a + 12), .ref (a + 13), vI 0, vI 0, vI 0, vI 0, vI 0]), .inl (0, 40, .inl (eIA (fun _ => 0))), .inl (0, 6, .inl (eIA (fun _ => 0))), .inl (0, 8, .inl (eIA (fun _ => 0))), .inr (4, [.ref (a + 15), .ref (a + 16), .ref (a + 17), vI 0, vI 0, vI 0, vI 0, vI 0]), .inl (0, 40, .inl (eIA (fun _ => 0))), .inl (0, 6, .inl (eIA (fun _ => 0))), .inl (0, 8, .inl (eIA (fun _ => 0)))]) (seg_pre (ds := [.inr (4, [.null, .null, .null, vI 0, vI 0, vI 0, vI 0, vI 0])]) s15) rfl t16 u16
  have f16 : ∀ i, i < a → h16 i = h i := fun i hi => (u16 i (by omega)).trans (f15 i hi)
  show eWp _ _ _ (33, [(1, vI 4), (0, .ref a)], [.ref (a + 18), vI 4, .ref (a + 1)], a + 22, h16, _, _) _
  refine eW_aastore 34 rfl rfl (Nat.ble_eq_true_of_le (by omega)) (Nat.ble_eq_true_of_le (by omega)) (show h16 (a + 18) = .inr (4, [.ref (a + 19), .ref (a + 20), .ref (a + 21), vI 0, vI 0, vI 0, vI 0, vI 0]) from s16 18 _ rfl) (show h16 (a + 1) = .inl (5, 8, .inr (.inr (.inr (.inr (va_up (va_up (va_up (va_up (fun _ => none) 0 (some (a + 2))) 1 (some (a + 6))) 2 (some (a + 10))) 3 (some (a + 14))))))) from s16 1 _ rfl) (by omega) (by omega) (by unfold i32; omega) ?_
  intro h17 e17 o17
  have s17 : hSeg h17 a [.inr (5, [.ref (a + 1), vI 0, vI 0]), .inl (5, 8, .inr (.inr (.inr (.inr (va_up (va_up (va_up (va_up (va_up (fun _ => none) 0 (some (a + 2))) 1 (some (a + 6))) 2 (some (a + 10))) 3 (some (a + 14))) 4 (some (a + 18))))))), .inr (4, [.ref (a + 3), .ref (a + 4), .ref (a + 5), vI 0, vI 0, vI 0, vI 0, vI 0]), .inl (0, 40, .inl (eIA (fun _ => 0))), .inl (0, 6, .inl (eIA (fun _ => 0))), .inl (0, 8, .inl (eIA (fun _ => 0))), .inr (4, [.ref (a + 7), .ref (a + 8), .ref (a + 9), vI 0, vI 0, vI 0, vI 0, vI 0]), .inl (0, 40, .inl (eIA (fun _ => 0))), .inl (0, 6, .inl (eIA (fun _ => 0))), .inl (0, 8, .inl (eIA (fun _ => 0))), .inr (4, [.ref (a + 11), .ref (a + 12), .ref (a + 13), vI 0, vI 0, vI 0, vI 0, vI 0]), .inl (0, 40, .inl (eIA (fun _ => 0))), .inl (0, 6, .inl (eIA (fun _ => 0))), .inl (0, 8, .inl (eIA (fun _ => 0))), .inr (4, [.ref (a + 15), .ref (a + 16), .ref (a + 17), vI 0, vI 0, vI 0, vI 0, vI 0]), .inl (0, 40, .inl (eIA (fun _ => 0))), .inl (0, 6, .inl (eIA (fun _ => 0))), .inl (0, 8, .inl (eIA (fun _ => 0))), .inr (4, [.ref (a + 19), .ref (a + 20), .ref (a + 21), vI 0, vI 0, vI 0, vI 0, vI 0]), .inl (0, 40, .inl (eIA (fun _ => 0))), .inl (0, 6, .inl (eIA (fun _ => 0))), .inl (0, 8, .inl (eIA (fun _ => 0)))] := seg_put 1 s16 rfl e17 o17
  have c17 : eClH (a + 22) h17 = true := eClH_up c16 e17 (eClO_up (by omega) (eClH_at c16 (show a + 1 < a + 22 by omega) (show h16 (a + 1) = .inl (5, 8, .inr (.inr (.inr (.inr (va_up (va_up (va_up (va_up (fun _ => none) 0 (some (a + 2))) 1 (some (a + 6))) 2 (some (a + 10))) 3 (some (a + 14))))))) from s16 1 _ rfl))) o17
  have f17 : ∀ i, i < a → h17 i = h i := fun i hi => (o17 i (by omega)).trans (f16 i hi)
  refine eW_iinc 37 rfl rfl [(1, vI 5), (0, .ref a)] rfl rfl rfl ?_
  refine eW_goto rfl ?_
  refine eW_iload_n 16 rfl rfl rfl ?_
  refine eW_bipush 18 rfl rfl 8 rfl ?_
  refine eW_icmp_ge 21 rfl rfl (by unfold i32; omega) (by unfold i32; omega) (fun c9 => absurd c9 (by omega)) (fun c9 => ?_)
  refine eW_aload_n 22 rfl rfl rfl ?_
  refine eW_getfield 25 rfl rfl (Nat.ble_eq_true_of_le (by omega)) rfl (show h17 a = .inr (5, [.ref (a + 1), vI 0, vI 0]) from s17 0 _ rfl) rfl ⟨rfl, fun _ h9 => nomatch h9⟩ ?_
  refine eW_iload_n 26 rfl rfl rfl ?_
  refine eW_newO 29 [.null, .null, .null, vI 0, vI 0, vI 0, vI 0, vI 0] rfl rfl rfl rfl (eClA_of (by simp only [vI, eClL, eClV, List.all_cons, List.all_nil, Bool.and_true, Bool.and_eq_true, Bool.true_and, Nat.ble_eq]; first | done | omega) c17) ?_
  intro h18 e18 o18
  have s18 : hSeg h18 a [.inr (5, [.ref (a + 1), vI 0, vI 0]), .inl (5, 8, .inr (.inr (.inr (.inr (va_up (va_up (va_up (va_up (va_up (fun _ => none) 0 (some (a + 2))) 1 (some (a + 6))) 2 (some (a + 10))) 3 (some (a + 14))) 4 (some (a + 18))))))), .inr (4, [.ref (a + 3), .ref (a + 4), .ref (a + 5), vI 0, vI 0, vI 0, vI 0, vI 0]), .inl (0, 40, .inl (eIA (fun _ => 0))), .inl (0, 6, .inl (eIA (fun _ => 0))), .inl (0, 8, .inl (eIA (fun _ => 0))), .inr (4, [.ref (a + 7), .ref (a + 8), .ref (a + 9), vI 0, vI 0, vI 0, vI 0, vI 0]), .inl (0, 40, .inl (eIA (fun _ => 0))), .inl (0, 6, .inl (eIA (fun _ => 0))), .inl (0, 8, .inl (eIA (fun _ => 0))), .inr (4, [.ref (a + 11), .ref (a + 12), .ref (a + 13), vI 0, vI 0, vI 0, vI 0, vI 0]), .inl (0, 40, .inl (eIA (fun _ => 0))), .inl (0, 6, .inl (eIA (fun _ => 0))), .inl (0, 8, .inl (eIA (fun _ => 0))), .inr (4, [.ref (a + 15), .ref (a + 16), .ref (a + 17), vI 0, vI 0, vI 0, vI 0, vI 0]), .inl (0, 40, .inl (eIA (fun _ => 0))), .inl (0, 6, .inl (eIA (fun _ => 0))), .inl (0, 8, .inl (eIA (fun _ => 0))), .inr (4, [.ref (a + 19), .ref (a + 20), .ref (a + 21), vI 0, vI 0, vI 0, vI 0, vI 0]), .inl (0, 40, .inl (eIA (fun _ => 0))), .inl (0, 6, .inl (eIA (fun _ => 0))), .inl (0, 8, .inl (eIA (fun _ => 0))), .inr (4, [.null, .null, .null, vI 0, vI 0, vI 0, vI 0, vI 0])] := seg_new s17 rfl e18 o18
  have c18 : eClH (a + 23) h18 = true := eClH_new c17 e18 (by simp only [vI, eClE, List.all_cons, List.all_nil, eClV, Bool.and_true, Bool.true_and, Bool.and_eq_true, Nat.ble_eq]; first | done | omega) o18
  have f18 : ∀ i, i < a → h18 i = h i := fun i hi => (o18 i (by omega)).trans (f17 i hi)
  refine eW_dup 30 rfl rfl rfl ?_
  refine eW_callM 33 [.ref (a + 22)] [.ref (a + 22), vI 5, .ref (a + 1)] (eS_callI rfl rfl (Or.inr rfl) rfl (Nat.ble_eq_true_of_le (by omega)) rfl) rfl rfl rfl (by simp only [vI, eClL, eClV, List.all_cons, List.all_nil, Bool.and_true, Bool.and_eq_true, Bool.true_and, Nat.ble_eq]; first | done | omega) (cC_M (a + 26) rfl (c_X0_init (d := d + 1) (seg_one (show h18 (a + 22) = .inr (4, [.null, .null, .null, vI 0, vI 0, vI 0, vI 0, vI 0]) from s18 22 _ rfl)) c18)) ?_
  intro v19 n19 h19 a19 b19 g19
  obtain ⟨rfl, rfl, rfl, rfl, t19, u19, c19⟩ := g19
  have s19 : hSeg h19 a [.inr (5, [.ref (a + 1), vI 0, vI 0]), .inl (5, 8, .inr (.inr (.inr (.inr (va_up (va_up (va_up (va_up (va_up (fun _ => none) 0 (some (a + 2))) 1 (some (a + 6))) 2 (some (a + 10))) 3 (some (a + 14))) 4 (some (a + 18))))))), .inr (4, [.ref (a + 3), .ref (a + 4), .ref (a + 5), vI 0, vI 0, vI 0, vI 0, vI 0]), .inl (0, 40, .inl (eIA (fun _ => 0))), .inl (0, 6, .inl (eIA (fun _ => 0))), .inl (0, 8, .inl (eIA (fun _ => 0))), .inr (4, [.ref (a + 7), .ref (a + 8), .ref (a + 9), vI 0, vI 0, vI 0, vI 0, vI 0]), .inl (0, 40, .inl (eIA (fun _ => 0))), .inl (0, 6, .inl (eIA (fun _ => 0))), .inl (0, 8, .inl (eIA (fun _ => 0))), .inr (4, [.ref (a + 11), .ref (a + 12), .ref (a + 13), vI 0, vI 0, vI 0, vI 0, vI 0]), .inl (0, 40, .inl (eIA (fun _ => 0))), .inl (0, 6, .inl (eIA (fun _ => 0))), .inl (0, 8, .inl (eIA (fun _ => 0))), .inr (4, [.ref (a + 15), .ref (a + 16), .ref (a + 17), vI 0, vI 0, vI 0, vI 0, vI 0]), .inl (0, 40, .inl (eIA (fun _ => 0))), .inl (0, 6, .inl (eIA (fun _ => 0))), .inl (0, 8, .inl (eIA (fun _ => 0))), .inr (4, [.ref (a + 19), .ref (a + 20), .ref (a + 21), vI 0, vI 0, vI 0, vI 0, vI 0]), .inl (0, 40, .inl (eIA (fun _ => 0))), .inl (0, 6, .inl (eIA (fun _ => 0))), .inl (0, 8, .inl (eIA (fun _ => 0))), .inr (4, [.ref (a + 23), .ref (a + 24), .ref (a + 25), vI 0, vI 0, vI 0, vI 0, vI 0]), .inl (0, 40, .inl (eIA (fun _ => 0))), .inl (0, 6, .inl (eIA (fun _ => 0))), .inl (0, 8, .inl (eIA (fun _ => 0)))] := seg_app (cs := [.inr (5, [.ref (a + 1), vI 0, vI 0]), .inl (5, 8, .inr (.inr (.inr (.inr (va_up (va_up (va_up (va_up (va_up (fun _ => none) 0 (some (a + 2))) 1 (some (a + 6))) 2 (some (a + 10))) 3 (some (a + 14))) 4 (some (a + 18))))))), .inr (4, [.ref (a + 3), .ref (a + 4), .ref (a + 5), vI 0, vI 0, vI 0, vI 0, vI 0]), .inl (0, 40, .inl (eIA (fun _ => 0))), .inl (0, 6, .inl (eIA (fun _ => 0))), .inl (0, 8, .inl (eIA (fun _ => 0))), .inr (4, [.ref (a + 7), .ref (a + 8), .ref (a + 9), vI 0, vI 0, vI 0, vI 0, vI 0]), .inl (0, 40, .inl (eIA (fun _ => 0))), .inl (0, 6, .inl (eIA (fun _ => 0))), .inl (0, 8, .inl (eIA (fun _ => 0))), .inr (4, [.ref (a + 11), .ref (a + 12), .ref (a + 13), vI 0, vI 0, vI 0, vI 0, vI 0]), .inl (0, 40, .inl (eIA (fun _ => 0))), .inl (0, 6, .inl (eIA (fun _ => 0))), .inl (0, 8, .inl (eIA (fun _ => 0))), .inr (4, [.ref (a + 15), .ref (a + 16), .ref (a + 17), vI 0, vI 0, vI 0, vI 0, vI 0]), .inl (0, 40, .inl (eIA (fun _ => 0))), .inl (0, 6, .inl (eIA (fun _ => 0))), .inl (0, 8, .inl (eIA (fun _ => 0))), .inr (4, [.ref (a + 19), .ref (a + 20), .ref (a + 21), vI 0, vI 0, vI 0, vI 0, vI 0]), .inl (0, 40, .inl (eIA (fun _ => 0))), .inl (0, 6, .inl (eIA (fun _ => 0))), .inl (0, 8, .inl (eIA (fun _ => 0)))]) (seg_pre (ds := [.inr (4, [.null, .null, .null, vI 0, vI 0, vI 0, vI 0, vI 0])]) s18) rfl t19 u19
  have f19 : ∀ i, i < a → h19 i = h i := fun i hi => (u19 i (by omega)).trans (f18 i hi)
  show eWp _ _ _ (33, [(1, vI 5), (0, .ref a)], [.ref (a + 22), vI 5, .ref (a + 1)], a + 26, h19, _, _) _
  refine eW_aastore 34 rfl rfl (Nat.ble_eq_true_of_le (by omega)) (Nat.ble_eq_true_of_le (by omega)) (show h19 (a + 22) = .inr (4, [.ref (a + 23), .ref (a + 24), .ref (a + 25), vI 0, vI 0, vI 0, vI 0, vI 0]) from s19 22 _ rfl) (show h19 (a + 1) = .inl (5, 8, .inr (.inr (.inr (.inr (va_up (va_up (va_up (va_up (va_up (fun _ => none) 0 (some (a + 2))) 1 (some (a + 6))) 2 (some (a + 10))) 3 (some (a + 14))) 4 (some (a + 18))))))) from s19 1 _ rfl) (by omega) (by omega) (by unfold i32; omega) ?_
  intro h20 e20 o20
  have s20 : hSeg h20 a [.inr (5, [.ref (a + 1), vI 0, vI 0]), .inl (5, 8, .inr (.inr (.inr (.inr (va_up (va_up (va_up (va_up (va_up (va_up (fun _ => none) 0 (some (a + 2))) 1 (some (a + 6))) 2 (some (a + 10))) 3 (some (a + 14))) 4 (some (a + 18))) 5 (some (a + 22))))))), .inr (4, [.ref (a + 3), .ref (a + 4), .ref (a + 5), vI 0, vI 0, vI 0, vI 0, vI 0]), .inl (0, 40, .inl (eIA (fun _ => 0))), .inl (0, 6, .inl (eIA (fun _ => 0))), .inl (0, 8, .inl (eIA (fun _ => 0))), .inr (4, [.ref (a + 7), .ref (a + 8), .ref (a + 9), vI 0, vI 0, vI 0, vI 0, vI 0]), .inl (0, 40, .inl (eIA (fun _ => 0))), .inl (0, 6, .inl (eIA (fun _ => 0))), .inl (0, 8, .inl (eIA (fun _ => 0))), .inr (4, [.ref (a + 11), .ref (a + 12), .ref (a + 13), vI 0, vI 0, vI 0, vI 0, vI 0]), .inl (0, 40, .inl (eIA (fun _ => 0))), .inl (0, 6, .inl (eIA (fun _ => 0))), .inl (0, 8, .inl (eIA (fun _ => 0))), .inr (4, [.ref (a + 15), .ref (a + 16), .ref (a + 17), vI 0, vI 0, vI 0, vI 0, vI 0]), .inl (0, 40, .inl (eIA (fun _ => 0))), .inl (0, 6, .inl (eIA (fun _ => 0))), .inl (0, 8, .inl (eIA (fun _ => 0))), .inr (4, [.ref (a + 19), .ref (a + 20), .ref (a + 21), vI 0, vI 0, vI 0, vI 0, vI 0]), .inl (0, 40, .inl (eIA (fun _ => 0))), .inl (0, 6, .inl (eIA (fun _ => 0))), .inl (0, 8, .inl (eIA (fun _ => 0))), .inr (4, [.ref (a + 23), .ref (a + 24), .ref (a + 25), vI 0, vI 0, vI 0, vI 0, vI 0]), .inl (0, 40, .inl (eIA (fun _ => 0))), .inl (0, 6, .inl (eIA (fun _ => 0))), .inl (0, 8, .inl (eIA (fun _ => 0)))] := seg_put 1 s19 rfl e20 o20
  have c20 : eClH (a + 26) h20 = true := eClH_up c19 e20 (eClO_up (by omega) (eClH_at c19 (show a + 1 < a + 26 by omega) (show h19 (a + 1) = .inl (5, 8, .inr (.inr (.inr (.inr (va_up (va_up (va_up (va_up (va_up (fun _ => none) 0 (some (a + 2))) 1 (some (a + 6))) 2 (some (a + 10))) 3 (some (a + 14))) 4 (some (a + 18))))))) from s19 1 _ rfl))) o20
  have f20 : ∀ i, i < a → h20 i = h i := fun i hi => (o20 i (by omega)).trans (f19 i hi)
  refine eW_iinc 37 rfl rfl [(1, vI 6), (0, .ref a)] rfl rfl rfl ?_
  refine eW_goto rfl ?_
  refine eW_iload_n 16 rfl rfl rfl ?_
  refine eW_bipush 18 rfl rfl 8 rfl ?_
  refine eW_icmp_ge 21 rfl rfl (by unfold i32; omega) (by unfold i32; omega) (fun c9 => absurd c9 (by omega)) (fun c9 => ?_)
  refine eW_aload_n 22 rfl rfl rfl ?_
  refine eW_getfield 25 rfl rfl (Nat.ble_eq_true_of_le (by omega)) rfl (show h20 a = .inr (5, [.ref (a + 1), vI 0, vI 0]) from s20 0 _ rfl) rfl ⟨rfl, fun _ h9 => nomatch h9⟩ ?_
  refine eW_iload_n 26 rfl rfl rfl ?_
  refine eW_newO 29 [.null, .null, .null, vI 0, vI 0, vI 0, vI 0, vI 0] rfl rfl rfl rfl (eClA_of (by simp only [vI, eClL, eClV, List.all_cons, List.all_nil, Bool.and_true, Bool.and_eq_true, Bool.true_and, Nat.ble_eq]; first | done | omega) c20) ?_
  intro h21 e21 o21
  have s21 : hSeg h21 a [.inr (5, [.ref (a + 1), vI 0, vI 0]), .inl (5, 8, .inr (.inr (.inr (.inr (va_up (va_up (va_up (va_up (va_up (va_up (fun _ => none) 0 (some (a + 2))) 1 (some (a + 6))) 2 (some (a + 10))) 3 (some (a + 14))) 4 (some (a + 18))) 5 (some (a + 22))))))), .inr (4, [.ref (a + 3), .ref (a + 4), .ref (a + 5), vI 0, vI 0, vI 0, vI 0, vI 0]), .inl (0, 40, .inl (eIA (fun _ => 0))), .inl (0, 6, .inl (eIA (fun _ => 0))), .inl (0, 8, .inl (eIA (fun _ => 0))), .inr (4, [.ref (a + 7), .ref (a + 8), .ref (a + 9), vI 0, vI 0, vI 0, vI 0, vI 0]), .inl (0, 40, .inl (eIA (fun _ => 0))), .inl (0, 6, .inl (eIA (fun _ => 0))), .inl (0, 8, .inl (eIA (fun _ => 0))), .inr (4, [.ref (a + 11), .ref (a + 12), .ref (a + 13), vI 0, vI 0, vI 0, vI 0, vI 0]), .inl (0, 40, .inl (eIA (fun _ => 0))), .inl (0, 6, .inl (eIA (fun _ => 0))), .inl (0, 8, .inl (eIA (fun _ => 0))), .inr (4, [.ref (a + 15), .ref (a + 16), .ref (a + 17), vI 0, vI 0, vI 0, vI 0, vI 0]), .inl (0, 40, .inl (eIA (fun _ => 0))), .inl (0, 6, .inl (eIA (fun _ => 0))), .inl (0, 8, .inl (eIA (fun _ => 0))), .inr (4, [.ref (a + 19), .ref (a + 20), .ref (a + 21), vI 0, vI 0, vI 0, vI 0, vI 0]), .inl (0, 40, .inl (eIA (fun _ => 0))), .inl (0, 6, .inl (eIA (fun _ => 0))), .inl (0, 8, .inl (eIA (fun _ => 0))), .inr (4, [.ref (a + 23), .ref (a + 24), .ref (a + 25), vI 0, vI 0, vI 0, vI 0, vI 0]), .inl (0, 40, .inl (eIA (fun _ => 0))), .inl (0, 6, .inl (eIA (fun _ => 0))), .inl (0, 8, .inl (eIA (fun _ => 0))), .inr (4, [.null, .null, .null, vI 0, vI 0, vI 0, vI 0, vI 0])] := seg_new s20 rfl e21 o21
  have c21 : eClH (a + 27) h21 = true := eClH_new c20 e21 (by simp only [vI, eClE, List.all_cons, List.all_nil, eClV, Bool.and_true, Bool.true_and, Bool.and_eq_true, Nat.ble_eq]; first | done | omega) o21
  have f21 : ∀ i, i < a → h21 i = h i := fun i hi => (o21 i (by omega)).trans (f20 i hi)
  refine eW_dup 30 rfl rfl rfl ?_
  refine eW_callM 33 [.ref (a + 26)] [.ref (a + 26), vI 6, .ref (a + 1)] (eS_callI rfl rfl (Or.inr rfl) rfl (Nat.ble_eq_true_of_le (by omega)) rfl) rfl rfl rfl (by simp only [vI, eClL, eClV, List.all_cons, List.all_nil, Bool.and_true, Bool.and_eq_true, Bool.true_and, Nat.ble_eq]; first | done | omega) (cC_M (a + 30) rfl (c_X0_init (d := d + 1) (seg_one (show h21 (a + 26) = .inr (4, [.null, .null, .null, vI 0, vI 0, vI 0, vI 0, vI 0]) from s21 26 _ rfl)) c21)) ?_
  intro v22 n22 h22 a22 b22 g22
  obtain ⟨rfl, rfl, rfl, rfl, t22, u22, c22⟩ := g22
  have s22 : hSeg h22 a [.inr (5, [.ref (a + 1), vI 0, vI 0]), .inl (5, 8, .inr (.inr (.inr (.inr (va_up (va_up (va_up (va_up (va_up (va_up (fun _ => none) 0 (some (a + 2))) 1 (some (a + 6))) 2 (some (a + 10))) 3 (some (a + 14))) 4 (some (a + 18))) 5 (some (a + 22))))))), .inr (4, [.ref (a + 3), .ref (a + 4), .ref (a + 5), vI 0, vI 0, vI 0, vI 0, vI 0]), .inl (0, 40, .inl (eIA (fun _ => 0))), .inl (0, 6, .inl (eIA (fun _ => 0))), .inl (0, 8, .inl (eIA (fun _ => 0))), .inr (4, [.ref (a + 7), .ref (a + 8), .ref (a + 9), vI 0, vI 0, vI 0, vI 0, vI 0]), .inl (0, 40, .inl (eIA (fun _ => 0))), .inl (0, 6, .inl (eIA (fun _ => 0))), .inl (0, 8, .inl (eIA (fun _ => 0))), .inr (4, [.ref (a + 11), .ref (a + 12), .ref (a + 13), vI 0, vI 0, vI 0, vI 0, vI 0]), .inl (0, 40, .inl (eIA (fun _ => 0))), .inl (0, 6, .inl (eIA (fun _ => 0))), .inl (0, 8, .inl (eIA (fun _ => 0))), .inr (4, [.ref (a + 15), .ref (a + 16), .ref (a + 17), vI 0, vI 0, vI 0, vI 0, vI 0]), .inl (0, 40, .inl (eIA (fun _ => 0))), .inl (0, 6, .inl (eIA (fun _ => 0))), .inl (0, 8, .inl (eIA (fun _ => 0))), .inr (4, [.ref (a + 19), .ref (a + 20), .ref (a + 21), vI 0, vI 0, vI 0, vI 0, vI 0]), .inl (0, 40, .inl (eIA (fun _ => 0))), .inl (0, 6, .inl (eIA (fun _ => 0))), .inl (0, 8, .inl (eIA (fun _ => 0))), .inr (4, [.ref (a + 23), .ref (a + 24), .ref (a + 25), vI 0, vI 0, vI 0, vI 0, vI 0]), .inl (0, 40, .inl (eIA (fun _ => 0))), .inl (0, 6, .inl (eIA (fun _ => 0))), .inl (0, 8, .inl (eIA (fun _ => 0))), .inr (4, [.ref (a + 27), .ref (a + 28), .ref (a + 29), vI 0, vI 0, vI 0, vI 0, vI 0]), .inl (0, 40, .inl (eIA (fun _ => 0))), .inl (0, 6, .inl (eIA (fun _ => 0))), .inl (0, 8, .inl (eIA (fun _ => 0)))] := seg_app (cs := [.inr (5, [.ref (a + 1), vI 0, vI 0]), .inl (5, 8, .inr (.inr (.inr (.inr (va_up (va_up (va_up (va_up (va_up (va_up (fun _ => none) 0 (some (a + 2))) 1 (some (a + 6))) 2 (some (a + 10))) 3 (some (a + 14))) 4 (some (a + 18))) 5 (some (a + 22))))))), .inr (4, [.ref (a + 3), .ref (a + 4), .ref (a + 5), vI 0, vI 0, vI 0, vI 0, vI 0]), .inl (0, 40, .inl (eIA (fun _ => 0))), .inl (0, 6, .inl (eIA (fun _ => 0))), .inl (0, 8, .inl (eIA (fun _ => 0))), .inr (4, [.ref (a + 7), .ref (a + 8), .ref (a + 9), vI 0, vI 0, vI 0, vI 0, vI 0]), .inl (0, 40, .inl (eIA (fun _ => 0))), .inl (0, 6, .inl (eIA (fun _ => 0))), .inl (0, 8, .inl (eIA (fun _ => 0))), .inr (4, [.ref (a + 11), .ref (a + 12), .ref (a + 13), vI 0, vI 0, vI 0, vI 0, vI 0]), .inl (0, 40, .inl (eIA (fun _ => 0))), .inl (0, 6, .inl (eIA (fun _ => 0))), .inl (0, 8, .inl (eIA (fun _ => 0))), .inr (4, [.ref (a + 15), .ref (a + 16), .ref (a + 17), vI 0, vI 0, vI 0, vI 0, vI 0]), .inl (0, 40, .inl (eIA (fun _ => 0))), .inl (0, 6, .inl (eIA (fun _ => 0))), .inl (0, 8, .inl (eIA (fun _ => 0))), .inr (4, [.ref (a + 19), .ref (a + 20), .ref (a + 21), vI 0, vI 0, vI 0, vI 0, vI 0]), .inl (0, 40, .inl (eIA (fun _ => 0))), .inl (0, 6, .inl (eIA (fun _ => 0))), .inl (0, 8, .inl (eIA (fun _ => 0))), .inr (4, [.ref (a + 23), .ref (a + 24), .ref (a + 25), vI 0, vI 0, vI 0, vI 0, vI 0]), .inl (0, 40, .inl (eIA (fun _ => 0))), .inl (0, 6, .inl (eIA (fun _ => 0))), .inl (0, 8, .inl (eIA (fun _ => 0)))]) (seg_pre (ds := [.inr (4, [.null, .null, .null, vI 0, vI 0, vI 0, vI 0, vI 0])]) s21) rfl t22 u22
  have f22 : ∀ i, i < a → h22 i = h i := fun i hi => (u22 i (by omega)).trans (f21 i hi)
  show eWp _ _ _ (33, [(1, vI 6), (0, .ref a)], [.ref (a + 26), vI 6, .ref (a + 1)], a + 30, h22, _, _) _
  refine eW_aastore 34 rfl rfl (Nat.ble_eq_true_of_le (by omega)) (Nat.ble_eq_true_of_le (by omega)) (show h22 (a + 26) = .inr (4, [.ref (a + 27), .ref (a + 28), .ref (a + 29), vI 0, vI 0, vI 0, vI 0, vI 0]) from s22 26 _ rfl) (show h22 (a + 1) = .inl (5, 8, .inr (.inr (.inr (.inr (va_up (va_up (va_up (va_up (va_up (va_up (fun _ => none) 0 (some (a + 2))) 1 (some (a + 6))) 2 (some (a + 10))) 3 (some (a + 14))) 4 (some (a + 18))) 5 (some (a + 22))))))) from s22 1 _ rfl) (by omega) (by omega) (by unfold i32; omega) ?_
  intro h23 e23 o23
  have s23 : hSeg h23 a [.inr (5, [.ref (a + 1), vI 0, vI 0]), .inl (5, 8, .inr (.inr (.inr (.inr (va_up (va_up (va_up (va_up (va_up (va_up (va_up (fun _ => none) 0 (some (a + 2))) 1 (some (a + 6))) 2 (some (a + 10))) 3 (some (a + 14))) 4 (some (a + 18))) 5 (some (a + 22))) 6 (some (a + 26))))))), .inr (4, [.ref (a + 3), .ref (a + 4), .ref (a + 5), vI 0, vI 0, vI 0, vI 0, vI 0]), .inl (0, 40, .inl (eIA (fun _ => 0))), .inl (0, 6, .inl (eIA (fun _ => 0))), .inl (0, 8, .inl (eIA (fun _ => 0))), .inr (4, [.ref (a + 7), .ref (a + 8), .ref (a + 9), vI 0, vI 0, vI 0, vI 0, vI 0]), .inl (0, 40, .inl (eIA (fun _ => 0))), .inl (0, 6, .inl (eIA (fun _ => 0))), .inl (0, 8, .inl (eIA (fun _ => 0))), .inr (4, [.ref (a + 11), .ref (a + 12), .ref (a + 13), vI 0, vI 0, vI 0, vI 0, vI 0]), .inl (0, 40, .inl (eIA (fun _ => 0))), .inl (0, 6, .inl (eIA (fun _ => 0))), .inl (0, 8, .inl (eIA (fun _ => 0))), .inr (4, [.ref (a + 15), .ref (a + 16), .ref (a + 17), vI 0, vI 0, vI 0, vI 0, vI 0]), .inl (0, 40, .inl (eIA (fun _ => 0))), .inl (0, 6, .inl (eIA (fun _ => 0))), .inl (0, 8, .inl (eIA (fun _ => 0))), .inr (4, [.ref (a + 19), .ref (a + 20), .ref (a + 21), vI 0, vI 0, vI 0, vI 0, vI 0]), .inl (0, 40, .inl (eIA (fun _ => 0))), .inl (0, 6, .inl (eIA (fun _ => 0))), .inl (0, 8, .inl (eIA (fun _ => 0))), .inr (4, [.ref (a + 23), .ref (a + 24), .ref (a + 25), vI 0, vI 0, vI 0, vI 0, vI 0]), .inl (0, 40, .inl (eIA (fun _ => 0))), .inl (0, 6, .inl (eIA (fun _ => 0))), .inl (0, 8, .inl (eIA (fun _ => 0))), .inr (4, [.ref (a + 27), .ref (a + 28), .ref (a + 29), vI 0, vI 0, vI 0, vI 0, vI 0]), .inl (0, 40, .inl (eIA (fun _ => 0))), .inl (0, 6, .inl (eIA (fun _ => 0))), .inl (0, 8, .inl (eIA (fun _ => 0)))] := seg_put 1 s22 rfl e23 o23
  have c23 : eClH (a + 30) h23 = true := eClH_up c22 e23 (eClO_up (by omega) (eClH_at c22 (show a + 1 < a + 30 by omega) (show h22 (a + 1) = .inl (5, 8, .inr (.inr (.inr (.inr (va_up (va_up (va_up (va_up (va_up (va_up (fun _ => none) 0 (some (a + 2))) 1 (some (a + 6))) 2 (some (a + 10))) 3 (some (a + 14))) 4 (some (a + 18))) 5 (some (a + 22))))))) from s22 1 _ rfl))) o23
  have f23 : ∀ i, i < a → h23 i = h i := fun i hi => (o23 i (by omega)).trans (f22 i hi)
  refine eW_iinc 37 rfl rfl [(1, vI 7), (0, .ref a)] rfl rfl rfl ?_
  refine eW_goto rfl ?_
  refine eW_iload_n 16 rfl rfl rfl ?_
  refine eW_bipush 18 rfl rfl 8 rfl ?_
  refine eW_icmp_ge 21 rfl rfl (by unfold i32; omega) (by unfold i32; omega) (fun c9 => absurd c9 (by omega)) (fun c9 => ?_)
  refine eW_aload_n 22 rfl rfl rfl ?_
  refine eW_getfield 25 rfl rfl (Nat.ble_eq_true_of_le (by omega)) rfl (show h23 a = .inr (5, [.ref (a + 1), vI 0, vI 0]) from s23 0 _ rfl) rfl ⟨rfl, fun _ h9 => nomatch h9⟩ ?_
  refine eW_iload_n 26 rfl rfl rfl ?_
  refine eW_newO 29 [.null, .null, .null, vI 0, vI 0, vI 0, vI 0, vI 0] rfl rfl rfl rfl (eClA_of (by simp only [vI, eClL, eClV, List.all_cons, List.all_nil, Bool.and_true, Bool.and_eq_true, Bool.true_and, Nat.ble_eq]; first | done | omega) c23) ?_
  intro h24 e24 o24
  have s24 : hSeg h24 a [.inr (5, [.ref (a + 1), vI 0, vI 0]), .inl (5, 8, .inr (.inr (.inr (.inr (va_up (va_up (va_up (va_up (va_up (va_up (va_up (fun _ => none) 0 (some (a + 2))) 1 (some (a + 6))) 2 (some (a + 10))) 3 (some (a + 14))) 4 (some (a + 18))) 5 (some (a + 22))) 6 (some (a + 26))))))), .inr (4, [.ref (a + 3), .ref (a + 4), .ref (a + 5), vI 0, vI 0, vI 0, vI 0, vI 0]), .inl (0, 40, .inl (eIA (fun _ => 0))), .inl (0, 6, .inl (eIA (fun _ => 0))), .inl (0, 8, .inl (eIA (fun _ => 0))), .inr (4, [.ref (a + 7), .ref (a + 8), .ref (a + 9), vI 0, vI 0, vI 0, vI 0, vI 0]), .inl (0, 40, .inl (eIA (fun _ => 0))), .inl (0, 6, .inl (eIA (fun _ => 0))), .inl (0, 8, .inl (eIA (fun _ => 0))), .inr (4, [.ref (a + 11), .ref (a + 12), .ref (a + 13), vI 0, vI 0, vI 0, vI 0, vI 0]), .inl (0, 40, .inl (eIA (fun _ => 0))), .inl (0, 6, .inl (eIA (fun _ => 0))), .inl (0, 8, .inl (eIA (fun _ => 0))), .inr (4, [.ref (a + 15), .ref (a + 16), .ref (a + 17), vI 0, vI 0, vI 0, vI 0, vI 0]), .inl (0, 40, .inl (eIA (fun _ => 0))), .inl (0, 6, .inl (eIA (fun _ => 0))), .inl (0, 8, .inl (eIA (fun _ => 0))), .inr (4, [.ref (a + 19), .ref (a + 20), .ref (a + 21), vI 0, vI 0, vI 0, vI 0, vI 0]), .inl (0, 40, .inl (eIA (fun _ => 0))), .inl (0, 6, .inl (eIA (fun _ => 0))), .inl (0, 8, .inl (eIA (fun _ => 0))), .inr (4, [.ref (a + 23), .ref (a + 24), .ref (a + 25), vI 0, vI 0, vI 0, vI 0, vI 0]), .inl (0, 40, .inl (eIA (fun _ => 0))), .inl (0, 6, .inl (eIA (fun _ => 0))), .inl (0, 8, .inl (eIA (fun _ => 0))), .inr (4, [.ref (a + 27), .ref (a + 28), .ref (a + 29), vI 0, vI 0, vI 0, vI 0, vI 0]), .inl (0, 40, .inl (eIA (fun _ => 0))), .inl (0, 6, .inl (eIA (fun _ => 0))), .inl (0, 8, .inl (eIA (fun _ => 0))), .inr (4, [.null, .null, .null, vI 0, vI 0, vI 0, vI 0, vI 0])] := seg_new s23 rfl e24 o24
  have c24 : eClH (a + 31) h24 = true := eClH_new c23 e24 (by simp only [vI, eClE, List.all_cons, List.all_nil, eClV, Bool.and_true, Bool.true_and, Bool.and_eq_true, Nat.ble_eq]; first | done | omega) o24
  have f24 : ∀ i, i < a → h24 i = h i := fun i hi => (o24 i (by omega)).trans (f23 i hi)
  refine eW_dup 30 rfl rfl rfl ?_
  refine eW_callM 33 [.ref (a + 30)] [.ref (a + 30), vI 7, .ref (a + 1)] (eS_callI rfl rfl (Or.inr rfl) rfl (Nat.ble_eq_true_of_le (by omega)) rfl) rfl rfl rfl (by simp only [vI, eClL, eClV, List.all_cons, List.all_nil, Bool.and_true, Bool.and_eq_true, Bool.true_and, Nat.ble_eq]; first | done | omega) (cC_M (a + 34) rfl (c_X0_init (d := d + 1) (seg_one (show h24 (a + 30) = .inr (4, [.null, .null, .null, vI 0, vI 0, vI 0, vI 0, vI 0]) from s24 30 _ rfl)) c24)) ?_
  intro v25 n25 h25 a25 b25 g25
  obtain ⟨rfl, rfl, rfl, rfl, t25, u25, c25⟩ := g25
  have s25 : hSeg h25 a [.inr (5, [.ref (a + 1), vI 0, vI 0]), .inl (5, 8, .inr (.inr (.inr (.inr (va_up (va_up (va_up (va_up (va_up (va_up (va_up (fun _ => none) 0 (some (a + 2))) 1 (some (a + 6))) 2 (some (a + 10))) 3 (some (a + 14))) 4 (some (a + 18))) 5 (some (a + 22))) 6 (some (a + 26))))))), .inr (4, [.ref (a + 3), .ref (a + 4), .ref (a + 5), vI 0, vI 0, vI 0, vI 0, vI 0]), .inl (0, 40, .inl (eIA (fun _ => 0))), .inl (0, 6, .inl (eIA (fun _ => 0))), .inl (0, 8, .inl (eIA (fun _ => 0))), .inr (4, [.ref (a + 7), .ref (a + 8), .ref (a + 9), vI 0, vI 0, vI 0, vI 0, vI 0]), .inl (0, 40, .inl (eIA (fun _ => 0))), .inl (0, 6, .inl (eIA (fun _ => 0))), .inl (0, 8, .inl (eIA (fun _ => 0))), .inr (4, [.ref (a + 11), .ref (a + 12), .ref (a + 13), vI 0, vI 0, vI 0, vI 0, vI 0]), .inl (0, 40, .inl (eIA (fun _ => 0))), .inl (0, 6, .inl (eIA (fun _ => 0))), .inl (0, 8, .inl (eIA (fun _ => 0))), .inr (4, [.ref (a + 15), .ref (a + 16), .ref (a + 17), vI 0, vI 0, vI 0, vI 0, vI 0]), .inl (0, 40, .inl (eIA (fun _ => 0))), .inl (0, 6, .inl (eIA (fun _ => 0))), .inl (0, 8, .inl (eIA (fun _ => 0))), .inr (4, [.ref (a + 19), .ref (a + 20), .ref (a + 21), vI 0, vI 0, vI 0, vI 0, vI 0]), .inl (0, 40, .inl (eIA (fun _ => 0))), .inl (0, 6, .inl (eIA (fun _ => 0))), .inl (0, 8, .inl (eIA (fun _ => 0))), .inr (4, [.ref (a + 23), .ref (a + 24), .ref (a + 25), vI 0, vI 0, vI 0, vI 0, vI 0]), .inl (0, 40, .inl (eIA (fun _ => 0))), .inl (0, 6, .inl (eIA (fun _ => 0))), .inl (0, 8, .inl (eIA (fun _ => 0))), .inr (4, [.ref (a + 27), .ref (a + 28), .ref (a + 29), vI 0, vI 0, vI 0, vI 0, vI 0]), .inl (0, 40, .inl (eIA (fun _ => 0))), .inl (0, 6, .inl (eIA (fun _ => 0))), .inl (0, 8, .inl (eIA (fun _ => 0))), .inr (4, [.ref (a + 31), .ref (a + 32), .ref (a + 33), vI 0, vI 0, vI 0, vI 0, vI 0]), .inl (0, 40, .inl (eIA (fun _ => 0))), .inl (0, 6, .inl (eIA (fun _ => 0))), .inl (0, 8, .inl (eIA (fun _ => 0)))] := seg_app (cs := [.inr (5, [.ref (a + 1), vI 0, vI 0]), .inl (5, 8, .inr (.inr (.inr (.inr (va_up (va_up (va_up (va_up (va_up (va_up (va_up (fun _ => none) 0 (some (a + 2))) 1 (some (a + 6))) 2 (some (a + 10))) 3 (some (a + 14))) 4 (some (a + 18))) 5 (some (a + 22))) 6 (some (a + 26))))))), .inr (4, [.ref (a + 3), .ref (a + 4), .ref (a + 5), vI 0, vI 0, vI 0, vI 0, vI 0]), .inl (0, 40, .inl (eIA (fun _ => 0))), .inl (0, 6, .inl (eIA (fun _ => 0))), .inl (0, 8, .inl (eIA (fun _ => 0))), .inr (4, [.ref (a + 7), .ref (a + 8), .ref (a + 9), vI 0, vI 0, vI 0, vI 0, vI 0]), .inl (0, 40, .inl (eIA (fun _ => 0))), .inl (0, 6, .inl (eIA (fun _ => 0))), .inl (0, 8, .inl (eIA (fun _ => 0))), .inr (4, [.ref (a + 11), .ref (a + 12), .ref (a + 13), vI 0, vI 0, vI 0, vI 0, vI 0]), .inl (0, 40, .inl (eIA (fun _ => 0))), .inl (0, 6, .inl (eIA (fun _ => 0))), .inl (0, 8, .inl (eIA (fun _ => 0))), .inr (4, [.ref (a + 15), .ref (a + 16), .ref (a + 17), vI 0, vI 0, vI 0, vI 0, vI 0]), .inl (0, 40, .inl (eIA (fun _ => 0))), .inl (0, 6, .inl (eIA (fun _ => 0))), .inl (0, 8, .inl (eIA (fun _ => 0))), .inr (4, [.ref (a + 19), .ref (a + 20), .ref (a + 21), vI 0, vI 0, vI 0, vI 0, vI 0]), .inl (0, 40, .inl (eIA (fun _ => 0))), .inl (0, 6, .inl (eIA (fun _ => 0))), .inl (0, 8, .inl (eIA (fun _ => 0))), .inr (4, [.ref (a + 23), .ref (a + 24), .ref (a + 25), vI 0, vI 0, vI 0, vI 0, vI 0]), .inl (0, 40, .inl (eIA (fun _ => 0))), .inl (0, 6, .inl (eIA (fun _ => 0))), .inl (0, 8, .inl (eIA (fun _ => 0))), .inr (4, [.ref (a + 27), .ref (a + 28), .ref (a + 29), vI 0, vI 0, vI 0, vI 0, vI 0]), .inl (0, 40, .inl (eIA (fun _ => 0))), .inl (0, 6, .inl (eIA (fun _ => 0))), .inl (0, 8, .inl (eIA (fun _ => 0)))]) (seg_pre (ds := [.inr (4, [.null, .null, .null, vI 0, vI 0, vI 0, vI 0, vI 0])]) s24) rfl t25 u25
  have f25 : ∀ i, i < a → h25 i = h i := fun i hi => (u25 i (by omega)).trans (f24 i hi)
  show eWp _ _ _ (33, [(1, vI 7), (0, .ref a)], [.ref (a + 30), vI 7, .ref (a + 1)], a + 34, h25, _, _) _
  refine eW_aastore 34 rfl rfl (Nat.ble_eq_true_of_le (by omega)) (Nat.ble_eq_true_of_le (by omega)) (show h25 (a + 30) = .inr (4, [.ref (a + 31), .ref (a + 32), .ref (a + 33), vI 0, vI 0, vI 0, vI 0, vI 0]) from s25 30 _ rfl) (show h25 (a + 1) = .inl (5, 8, .inr (.inr (.inr (.inr (va_up (va_up (va_up (va_up (va_up (va_up (va_up (fun _ => none) 0 (some (a + 2))) 1 (some (a + 6))) 2 (some (a + 10))) 3 (some (a + 14))) 4 (some (a + 18))) 5 (some (a + 22))) 6 (some (a + 26))))))) from s25 1 _ rfl) (by omega) (by omega) (by unfold i32; omega) ?_
  intro h26 e26 o26
  have s26 : hSeg h26 a [.inr (5, [.ref (a + 1), vI 0, vI 0]), .inl (5, 8, .inr (.inr (.inr (.inr (va_up (va_up (va_up (va_up (va_up (va_up (va_up (va_up (fun _ => none) 0 (some (a + 2))) 1 (some (a + 6))) 2 (some (a + 10))) 3 (some (a + 14))) 4 (some (a + 18))) 5 (some (a + 22))) 6 (some (a + 26))) 7 (some (a + 30))))))), .inr (4, [.ref (a + 3), .ref (a + 4), .ref (a + 5), vI 0, vI 0, vI 0, vI 0, vI 0]), .inl (0, 40, .inl (eIA (fun _ => 0))), .inl (0, 6, .inl (eIA (fun _ => 0))), .inl (0, 8, .inl (eIA (fun _ => 0))), .inr (4, [.ref (a + 7), .ref (a + 8), .ref (a + 9), vI 0, vI 0, vI 0, vI 0, vI 0]), .inl (0, 40, .inl (eIA (fun _ => 0))), .inl (0, 6, .inl (eIA (fun _ => 0))), .inl (0, 8, .inl (eIA (fun _ => 0))), .inr (4, [.ref (a + 11), .ref (a + 12), .ref (a + 13), vI 0, vI 0, vI 0, vI 0, vI 0]), .inl (0, 40, .inl (eIA (fun _ => 0))), .inl (0, 6, .inl (eIA (fun _ => 0))), .inl (0, 8, .inl (eIA (fun _ => 0))), .inr (4, [.ref (a + 15), .ref (a + 16), .ref (a + 17), vI 0, vI 0, vI 0, vI 0, vI 0]), .inl (0, 40, .inl (eIA (fun _ => 0))), .inl (0, 6, .inl (eIA (fun _ => 0))), .inl (0, 8, .inl (eIA (fun _ => 0))), .inr (4, [.ref (a + 19), .ref (a + 20), .ref (a + 21), vI 0, vI 0, vI 0, vI 0, vI 0]), .inl (0, 40, .inl (eIA (fun _ => 0))), .inl (0, 6, .inl (eIA (fun _ => 0))), .inl (0, 8, .inl (eIA (fun _ => 0))), .inr (4, [.ref (a + 23), .ref (a + 24), .ref (a + 25), vI 0, vI 0, vI 0, vI 0, vI 0]), .inl (0, 40, .inl (eIA (fun _ => 0))), .inl (0, 6, .inl (eIA (fun _ => 0))), .inl (0, 8, .inl (eIA (fun _ => 0))), .inr (4, [.ref (a + 27), .ref (a + 28), .ref (a + 29), vI 0, vI 0, vI 0, vI 0, vI 0]), .inl (0, 40, .inl (eIA (fun _ => 0))), .inl (0, 6, .inl (eIA (fun _ => 0))), .inl (0, 8, .inl (eIA (fun _ => 0))), .inr (4, [.ref (a + 31), .ref (a + 32), .ref (a + 33), vI 0, vI 0, vI 0, vI 0, vI 0]), .inl (0, 40, .inl (eIA (fun _ => 0))), .inl (0, 6, .inl (eIA (fun _ => 0))), .inl (0, 8, .inl (eIA (fun _ => 0)))] := seg_put 1 s25 rfl e26 o26
  have c26 : eClH (a + 34) h26 = true := eClH_up c25 e26 (eClO_up (by omega) (eClH_at c25 (show a + 1 < a + 34 by omega) (show h25 (a + 1) = .inl (5, 8, .inr (.inr (.inr (.inr (va_up (va_up (va_up (va_up (va_up (va_up (va_up (fun _ => none) 0 (some (a + 2))) 1 (some (a + 6))) 2 (some (a + 10))) 3 (some (a + 14))) 4 (some (a + 18))) 5 (some (a + 22))) 6 (some (a + 26))))))) from s25 1 _ rfl))) o26
  have f26 : ∀ i, i < a → h26 i = h i := fun i hi => (o26 i (by omega)).trans (f25 i hi)
  refine eW_iinc 37 rfl rfl [(1, vI 8), (0, .ref a)] rfl rfl rfl ?_
  refine eW_goto rfl ?_
  refine eW_iload_n 16 rfl rfl rfl ?_
  refine eW_bipush 18 rfl rfl 8 rfl ?_
  refine eW_icmp_ge 21 rfl rfl (by unfold i32; omega) (by unfold i32; omega) (fun c9 => ?_) (fun c9 => absurd c9 (by omega))
  refine eW_ret rfl rfl ?_
  exact ⟨h26, rfl, s26, f26, c26⟩
theorem c_J5_init_d00df {d a : Nat} {h : eHp} (s0 : hSeg h a [.inr (1, [.null, vI 0, vI 0, vI 0])]) (c0 : eClH (a + 1) h = true) : eSp (d + 1) eM_J5_init_d00df [.ref a, vI 16] (a + 1) h (cC a [.inr (1, [.ref (a + 1), vI 0, vI 0, vI 0]), .inl (3, 16, .inl (eIA (fun _ => 0)))] 1 16 h) := by
  refine eSp_of [(0, .ref a), (1, vI 16)] rfl rfl ?_
  have f0 : ∀ i, i < a → h i = h i := fun _ _ => rfl
  refine eW_aload_n 1 rfl rfl rfl ?_
  refine eW_objInit 4 rfl rfl rfl rfl ?_
  refine eW_getstatic 7 (v := vI 1) rfl rfl rfl ?_
  refine eW_if_eq 10 rfl rfl (by unfold i32; omega) (fun c9 => absurd c9 (by omega)) (fun c9 => ?_)
  refine eW_aload_n 11 rfl rfl rfl ?_
  refine eW_iload_n 12 rfl rfl rfl ?_
  refine eW_newX 14 3 (.inl (eIA (fun _ => 0))) rfl rfl (fun _ => rfl) (by omega) (eClA_of (by simp only [vI, eClL, eClV, List.all_cons, List.all_nil, Bool.and_true, Bool.and_eq_true, Bool.true_and, Nat.ble_eq]; first | done | omega) c0) ?_
  intro h1 e1 o1
  have s1 : hSeg h1 a [.inr (1, [.null, vI 0, vI 0, vI 0]), .inl (3, 16, .inl (eIA (fun _ => 0)))] := seg_new s0 rfl e1 o1
  have c1 : eClH (a + 2) h1 = true := eClH_new c0 e1 rfl o1
  have f1 : ∀ i, i < a → h1 i = h i := fun i hi => (o1 i (by omega)).trans (f0 i hi)
  refine eW_putfield 17 [.ref (a + 1), vI 0, vI 0, vI 0] rfl rfl (Nat.ble_eq_true_of_le (by omega)) rfl (show h1 a = .inr (1, [.null, vI 0, vI 0, vI 0]) from s1 0 _ rfl) rfl rfl ?_
  intro h2 e2 o2
  have s2 : hSeg h2 a [.inr (1, [.ref (a + 1), vI 0, vI 0, vI 0]), .inl (3, 16, .inl (eIA (fun _ => 0)))] := seg_put 0 s1 rfl e2 o2
  have c2 : eClH (a + 2) h2 = true := eClH_up c1 e2 (by simp only [vI, eClE, List.all_cons, List.all_nil, eClV, Bool.and_true, Bool.true_and, Bool.and_eq_true, Nat.ble_eq]; first | done | omega) o2
  have f2 : ∀ i, i < a → h2 i = h i := fun i hi => (o2 i (by omega)).trans (f1 i hi)
  refine eW_aload_n 18 rfl rfl rfl ?_
  refine eW_iconst 19 rfl rfl ?_
  refine eW_putfield 22 [.ref (a + 1), vI 0, vI 0, vI 0] rfl rfl (Nat.ble_eq_true_of_le (by omega)) rfl (show h2 a = .inr (1, [.ref (a + 1), vI 0, vI 0, vI 0]) from s2 0 _ rfl) rfl rfl ?_
  intro h3 e3 o3
  have s3 : hSeg h3 a [.inr (1, [.ref (a + 1), vI 0, vI 0, vI 0]), .inl (3, 16, .inl (eIA (fun _ => 0)))] := seg_put 0 s2 rfl e3 o3
  have c3 : eClH (a + 2) h3 = true := eClH_up c2 e3 (by simp only [vI, eClE, List.all_cons, List.all_nil, eClV, Bool.and_true, Bool.true_and, Bool.and_eq_true, Nat.ble_eq]; first | done | omega) o3
  have f3 : ∀ i, i < a → h3 i = h i := fun i hi => (o3 i (by omega)).trans (f2 i hi)
  refine eW_goto rfl ?_
  refine eW_ret rfl rfl ?_
  exact ⟨h3, rfl, s3, f3, c3⟩
theorem c_J4_init_da8c8 {d a : Nat} {h : eHp} (s0 : hSeg h a [.inr (1, [.null, vI 0, vI 0, vI 0])]) (c0 : eClH (a + 1) h = true) : eSp (d + 3) eM_J4_init_da8c8 [.ref a] (a + 1) h (cC a [.inr (1, [.ref (a + 1), vI 0, vI 0, vI 0]), .inl (3, 16, .inl (eIA (fun _ => 0)))] 1 16 h) := by
  refine eSp_of [(0, .ref a)] rfl rfl ?_
  have f0 : ∀ i, i < a → h i = h i := fun _ _ => rfl
  refine eW_aload_n 1 rfl rfl rfl ?_
  refine eW_bipush 3 rfl rfl 16 rfl ?_
  refine eW_callM 6 [.ref a, vI 16] [] (eS_callI rfl rfl (Or.inl rfl) rfl (Nat.ble_eq_true_of_le (by omega)) rfl) rfl rfl rfl (by simp only [vI, eClL, eClV, List.all_cons, List.all_nil, Bool.and_true, Bool.and_eq_true, Bool.true_and, Nat.ble_eq]; first | done | omega) (cC_M (a + 2) rfl (c_J5_init_d00df (d := d + 1) (seg_one (show h a = .inr (1, [.null, vI 0, vI 0, vI 0]) from s0 0 _ rfl)) c0)) ?_
  intro v1 n1 h1 a1 b1 g1
  obtain ⟨rfl, rfl, rfl, rfl, t1, u1, c1⟩ := g1
  have s1 : hSeg h1 a [.inr (1, [.ref (a + 1), vI 0, vI 0, vI 0]), .inl (3, 16, .inl (eIA (fun _ => 0)))] := t1
  have f1 : ∀ i, i < a → h1 i = h i := fun i hi => (u1 i (by omega)).trans (f0 i hi)
  show eWp _ _ _ (6, [(0, .ref a)], [], a + 2, h1, _, _) _
  refine eW_ret rfl rfl ?_
  exact ⟨h1, rfl, s1, f1, c1⟩
theorem c_X7_init {d a : Nat} {h : eHp} (s0 : hSeg h a [.inr (11, [.null, .null, .null, .null, vI 0, vI 0, vI 0, vI 0, vI 0, vI 0, .null, vI 0, vI 0, .null, vI 0, .null, .null, vI 0, vI 0, vI 0, vI 0, .null, vI 0])]) (c0 : eClH (a + 1) h = true) : eSp (d + 1) eM_X7_init [.ref a] (a + 1) h (cC a [.inr (11, [.ref (a + 1), .ref (a + 2), .ref (a + 3), .ref (a + 4), vI 0, vI 0, vI 0, vI 0, vI 0, vI 0, .ref (a + 5), vI 0, vI (-1), .ref (a + 6), vI 0, .ref (a + 7), .ref (a + 8), vI 0, vI 0, vI 0, vI 0, .ref (a + 9), vI 0]), .inl (0, 62, .inl (eIA (eUp (eUp (eUp (fun _ => 0) 7 (-1)) 8 7) 9 7))), .inl (0, 496, .inl (eIA (fun _ => 0))), .inl (0, 62, .inl (eIA (fun _ => 0))), .inl (0, 62, .inl (eIA (fun _ => 0))), .inl (0, 60, .inl (eIA (fun _ => 0))), .inl (1, 330, .inl (eIA (fun _ => 0))), .inl (0, 31, .inl (eIA (fun _ => 0))), .inl (2, 256, .inl (eIA (fun _ => 0))), .inl (0, 124, .inl (eIA (fun _ => 0)))] 9 1483 h) := by
  refine eSp_of [(0, .ref a)] rfl rfl ?_
  have f0 : ∀ i, i < a → h i = h i := fun _ _ => rfl
  refine eW_aload_n 1 rfl rfl rfl ?_
  refine eW_objInit 4 rfl rfl rfl rfl ?_
  refine eW_aload_n 5 rfl rfl rfl ?_
  refine eW_bipush 7 rfl rfl 62 rfl ?_
  refine eW_newX 9 0 (.inl (eIA (fun _ => 0))) rfl rfl (fun _ => rfl) (by omega) (eClA_of (by simp only [vI, eClL, eClV, List.all_cons, List.all_nil, Bool.and_true, Bool.and_eq_true, Bool.true_and, Nat.ble_eq]; first | done | omega) c0) ?_
  intro h1 e1 o1
  have s1 : hSeg h1 a [.inr (11, [.null, .null, .null, .null, vI 0, vI 0, vI 0, vI 0, vI 0, vI 0, .null, vI 0, vI 0, .null, vI 0, .null, .null, vI 0, vI 0, vI 0, vI 0, .null, vI 0]), .inl (0, 62, .inl (eIA (fun _ => 0)))] := seg_new s0 rfl e1 o1
  have c1 : eClH (a + 2) h1 = true := eClH_new c0 e1 rfl o1
  have f1 : ∀ i, i < a → h1 i = h i := fun i hi => (o1 i (by omega)).trans (f0 i hi)
  refine eW_putfield 12 [.ref (a + 1), .null, .null, .null, vI 0, vI 0, vI 0, vI 0, vI 0, vI 0, .null, vI 0, vI 0, .null, vI 0, .null, .null, vI 0, vI 0, vI 0, vI 0, .null, vI 0] rfl rfl (Nat.ble_eq_true_of_le (by omega)) rfl (show h1 a = .inr (11, [.null, .null, .null, .null, vI 0, vI 0, vI 0, vI 0, vI 0, vI 0, .null, vI 0, vI 0, .null, vI 0, .null, .null, vI 0, vI 0, vI 0, vI 0, .null, vI 0]) from s1 0 _ rfl) rfl rfl ?_
  intro h2 e2 o2
  have s2 : hSeg h2 a [.inr (11, [.ref (a + 1), .null, .null, .null, vI 0, vI 0, vI 0, vI 0, vI 0, vI 0, .null, vI 0, vI 0, .null, vI 0, .null, .null, vI 0, vI 0, vI 0, vI 0, .null, vI 0]), .inl (0, 62, .inl (eIA (fun _ => 0)))] := seg_put 0 s1 rfl e2 o2
  have c2 : eClH (a + 2) h2 = true := eClH_up c1 e2 (by simp only [vI, eClE, List.all_cons, List.all_nil, eClV, Bool.and_true, Bool.true_and, Bool.and_eq_true, Nat.ble_eq]; first | done | omega) o2
  have f2 : ∀ i, i < a → h2 i = h i := fun i hi => (o2 i (by omega)).trans (f1 i hi)
  refine eW_aload_n 13 rfl rfl rfl ?_
  refine eW_sipush 16 rfl rfl 496 rfl ?_
  refine eW_newX 18 0 (.inl (eIA (fun _ => 0))) rfl rfl (fun _ => rfl) (by omega) (eClA_of (by simp only [vI, eClL, eClV, List.all_cons, List.all_nil, Bool.and_true, Bool.and_eq_true, Bool.true_and, Nat.ble_eq]; first | done | omega) c2) ?_
  intro h3 e3 o3
  have s3 : hSeg h3 a [.inr (11, [.ref (a + 1), .null, .null, .null, vI 0, vI 0, vI 0, vI 0, vI 0, vI 0, .null, vI 0, vI 0, .null, vI 0, .null, .null, vI 0, vI 0, vI 0, vI 0, .null, vI 0]), .inl (0, 62, .inl (eIA (fun _ => 0))), .inl (0, 496, .inl (eIA (fun _ => 0)))] := seg_new s2 rfl e3 o3
  have c3 : eClH (a + 3) h3 = true := eClH_new c2 e3 rfl o3
  have f3 : ∀ i, i < a → h3 i = h i := fun i hi => (o3 i (by omega)).trans (f2 i hi)
  refine eW_putfield 21 [.ref (a + 1), .ref (a + 2), .null, .null, vI 0, vI 0, vI 0, vI 0, vI 0, vI 0, .null, vI 0, vI 0, .null, vI 0, .null, .null, vI 0, vI 0, vI 0, vI 0, .null, vI 0] rfl rfl (Nat.ble_eq_true_of_le (by omega)) rfl (show h3 a = .inr (11, [.ref (a + 1), .null, .null, .null, vI 0, vI 0, vI 0, vI 0, vI 0, vI 0, .null, vI 0, vI 0, .null, vI 0, .null, .null, vI 0, vI 0, vI 0, vI 0, .null, vI 0]) from s3 0 _ rfl) rfl rfl ?_
  intro h4 e4 o4
  have s4 : hSeg h4 a [.inr (11, [.ref (a + 1), .ref (a + 2), .null, .null, vI 0, vI 0, vI 0, vI 0, vI 0, vI 0, .null, vI 0, vI 0, .null, vI 0, .null, .null, vI 0, vI 0, vI 0, vI 0, .null, vI 0]), .inl (0, 62, .inl (eIA (fun _ => 0))), .inl (0, 496, .inl (eIA (fun _ => 0)))] := seg_put 0 s3 rfl e4 o4
  have c4 : eClH (a + 3) h4 = true := eClH_up c3 e4 (by simp only [vI, eClE, List.all_cons, List.all_nil, eClV, Bool.and_true, Bool.true_and, Bool.and_eq_true, Nat.ble_eq]; first | done | omega) o4
  have f4 : ∀ i, i < a → h4 i = h i := fun i hi => (o4 i (by omega)).trans (f3 i hi)
  refine eW_aload_n 22 rfl rfl rfl ?_
  refine eW_bipush 24 rfl rfl 62 rfl ?_
  refine eW_newX 26 0 (.inl (eIA (fun _ => 0))) rfl rfl (fun _ => rfl) (by omega) (eClA_of (by simp only [vI, eClL, eClV, List.all_cons, List.all_nil, Bool.and_true, Bool.and_eq_true, Bool.true_and, Nat.ble_eq]; first | done | omega) c4) ?_
  intro h5 e5 o5
  have s5 : hSeg h5 a [.inr (11, [.ref (a + 1), .ref (a + 2), .null, .null, vI 0, vI 0, vI 0, vI 0, vI 0, vI 0, .null, vI 0, vI 0, .null, vI 0, .null, .null, vI 0, vI 0, vI 0, vI 0, .null, vI 0]), .inl (0, 62, .inl (eIA (fun _ => 0))), .inl (0, 496, .inl (eIA (fun _ => 0))), .inl (0, 62, .inl (eIA (fun _ => 0)))] := seg_new s4 rfl e5 o5
  have c5 : eClH (a + 4) h5 = true := eClH_new c4 e5 rfl o5
  have f5 : ∀ i, i < a → h5 i = h i := fun i hi => (o5 i (by omega)).trans (f4 i hi)
  refine eW_putfield 29 [.ref (a + 1), .ref (a + 2), .ref (a + 3), .null, vI 0, vI 0, vI 0, vI 0, vI 0, vI 0, .null, vI 0, vI 0, .null, vI 0, .null, .null, vI 0, vI 0, vI 0, vI 0, .null, vI 0] rfl rfl (Nat.ble_eq_true_of_le (by omega)) rfl (show h5 a = .inr (11, [.ref (a + 1), .ref (a + 2), .null, .null, vI 0, vI 0, vI 0, vI 0, vI 0, vI 0, .null, vI 0, vI 0, .null, vI 0, .null, .null, vI 0, vI 0, vI 0, vI 0, .null, vI 0]) from s5 0 _ rfl) rfl rfl ?_
  intro h6 e6 o6
  have s6 : hSeg h6 a [.inr (11, [.ref (a + 1), .ref (a + 2), .ref (a + 3), .null, vI 0, vI 0, vI 0, vI 0, vI 0, vI 0, .null, vI 0, vI 0, .null, vI 0, .null, .null, vI 0, vI 0, vI 0, vI 0, .null, vI 0]), .inl (0, 62, .inl (eIA (fun _ => 0))), .inl (0, 496, .inl (eIA (fun _ => 0))), .inl (0, 62, .inl (eIA (fun _ => 0)))] := seg_put 0 s5 rfl e6 o6
  have c6 : eClH (a + 4) h6 = true := eClH_up c5 e6 (by simp only [vI, eClE, List.all_cons, List.all_nil, eClV, Bool.and_true, Bool.true_and, Bool.and_eq_true, Nat.ble_eq]; first | done | omega) o6
  have f6 : ∀ i, i < a → h6 i = h i := fun i hi => (o6 i (by omega)).trans (f5 i hi)
  refine eW_aload_n 30 rfl rfl rfl ?_
  refine eW_bipush 32 rfl rfl 62 rfl ?_
  refine eW_newX 34 0 (.inl (eIA (fun _ => 0))) rfl rfl (fun _ => rfl) (by omega) (eClA_of (by simp only [vI, eClL, eClV, List.all_cons, List.all_nil, Bool.and_true, Bool.and_eq_true, Bool.true_and, Nat.ble_eq]; first | done | omega) c6) ?_
  intro h7 e7 o7
  have s7 : hSeg h7 a [.inr (11, [.ref (a + 1), .ref (a + 2), .ref (a + 3), .null, vI 0, vI 0, vI 0, vI 0, vI 0, vI 0, .null, vI 0, vI 0, .null, vI 0, .null, .null, vI 0, vI 0, vI 0, vI 0, .null, vI 0]), .inl (0, 62, .inl (eIA (fun _ => 0))), .inl (0, 496, .inl (eIA (fun _ => 0))), .inl (0, 62, .inl (eIA (fun _ => 0))), .inl (0, 62, .inl (eIA (fun _ => 0)))] := seg_new s6 rfl e7 o7
  have c7 : eClH (a + 5) h7 = true := eClH_new c6 e7 rfl o7
  have f7 : ∀ i, i < a → h7 i = h i := fun i hi => (o7 i (by omega)).trans (f6 i hi)
  refine eW_putfield 37 [.ref (a + 1), .ref (a + 2), .ref (a + 3), .ref (a + 4), vI 0, vI 0, vI 0, vI 0, vI 0, vI 0, .null, vI 0, vI 0, .null, vI 0, .null, .null, vI 0, vI 0, vI 0, vI 0, .null, vI 0] rfl rfl (Nat.ble_eq_true_of_le (by omega)) rfl (show h7 a = .inr (11, [.ref (a + 1), .ref (a + 2), .ref (a + 3), .null, vI 0, vI 0, vI 0, vI 0, vI 0, vI 0, .null, vI 0, vI 0, .null, vI 0, .null, .null, vI 0, vI 0, vI 0, vI 0, .null, vI 0]) from s7 0 _ rfl) rfl rfl ?_
  intro h8 e8 o8
  have s8 : hSeg h8 a [.inr (11, [.ref (a + 1), .ref (a + 2), .ref (a + 3), .ref (a + 4), vI 0, vI 0, vI 0, vI 0, vI 0, vI 0, .null, vI 0, vI 0, .null, vI 0, .null, .null, vI 0, vI 0, vI 0, vI 0, .null, vI 0]), .inl (0, 62, .inl (eIA (fun _ => 0))), .inl (0, 496, .inl (eIA (fun _ => 0))), .inl (0, 62, .inl (eIA (fun _ => 0))), .inl (0, 62, .inl (eIA (fun _ => 0)))] := seg_put 0 s7 rfl e8 o8
  have c8 : eClH (a + 5) h8 = true := eClH_up c7 e8 (by simp only [vI, eClE, List.all_cons, List.all_nil, eClV, Bool.and_true, Bool.true_and, Bool.and_eq_true, Nat.ble_eq]; first | done | omega) o8
  have f8 : ∀ i, i < a → h8 i = h i := fun i hi => (o8 i (by omega)).trans (f7 i hi)
  refine eW_aload_n 38 rfl rfl rfl ?_
  refine eW_bipush 40 rfl rfl 60 rfl ?_
  refine eW_newX 42 0 (.inl (eIA (fun _ => 0))) rfl rfl (fun _ => rfl) (by omega) (eClA_of (by simp only [vI, eClL, eClV, List.all_cons, List.all_nil, Bool.and_true, Bool.and_eq_true, Bool.true_and, Nat.ble_eq]; first | done | omega) c8) ?_
  intro h9 e9 o9
  have s9 : hSeg h9 a [.inr (11, [.ref (a + 1), .ref (a + 2), .ref (a + 3), .ref (a + 4), vI 0, vI 0, vI 0, vI 0, vI 0, vI 0, .null, vI 0, vI 0, .null, vI 0, .null, .null, vI 0, vI 0, vI 0, vI 0, .null, vI 0]), .inl (0, 62, .inl (eIA (fun _ => 0))), .inl (0, 496, .inl (eIA (fun _ => 0))), .inl (0, 62, .inl (eIA (fun _ => 0))), .inl (0, 62, .inl (eIA (fun _ => 0))), .inl (0, 60, .inl (eIA (fun _ => 0)))] := seg_new s8 rfl e9 o9
  have c9 : eClH (a + 6) h9 = true := eClH_new c8 e9 rfl o9
  have f9 : ∀ i, i < a → h9 i = h i := fun i hi => (o9 i (by omega)).trans (f8 i hi)
  refine eW_putfield 45 [.ref (a + 1), .ref (a + 2), .ref (a + 3), .ref (a + 4), vI 0, vI 0, vI 0, vI 0, vI 0, vI 0, .ref (a + 5), vI 0, vI 0, .null, vI 0, .null, .null, vI 0, vI 0, vI 0, vI 0, .null, vI 0] rfl rfl (Nat.ble_eq_true_of_le (by omega)) rfl (show h9 a = .inr (11, [.ref (a + 1), .ref (a + 2), .ref (a + 3), .ref (a + 4), vI 0, vI 0, vI 0, vI 0, vI 0, vI 0, .null, vI 0, vI 0, .null, vI 0, .null, .null, vI 0, vI 0, vI 0, vI 0, .null, vI 0]) from s9 0 _ rfl) rfl rfl ?_
  intro h10 e10 o10
  have s10 : hSeg h10 a [.inr (11, [.ref (a + 1), .ref (a + 2), .ref (a + 3), .ref (a + 4), vI 0, vI 0, vI 0, vI 0, vI 0, vI 0, .ref (a + 5), vI 0, vI 0, .null, vI 0, .null, .null, vI 0, vI 0, vI 0, vI 0, .null, vI 0]), .inl (0, 62, .inl (eIA (fun _ => 0))), .inl (0, 496, .inl (eIA (fun _ => 0))), .inl (0, 62, .inl (eIA (fun _ => 0))), .inl (0, 62, .inl (eIA (fun _ => 0))), .inl (0, 60, .inl (eIA (fun _ => 0)))] := seg_put 0 s9 rfl e10 o10
  have c10 : eClH (a + 6) h10 = true := eClH_up c9 e10 (by simp only [vI, eClE, List.all_cons, List.all_nil, eClV, Bool.and_true, Bool.true_and, Bool.and_eq_true, Nat.ble_eq]; first | done | omega) o10
  have f10 : ∀ i, i < a → h10 i = h i := fun i hi => (o10 i (by omega)).trans (f9 i hi)
  refine eW_aload_n 46 rfl rfl rfl ?_
  refine eW_iconst 47 rfl rfl ?_
  refine eW_putfield 50 [.ref (a + 1), .ref (a + 2), .ref (a + 3), .ref (a + 4), vI 0, vI 0, vI 0, vI 0, vI 0, vI 0, .ref (a + 5), vI 0, vI (-1), .null, vI 0, .null, .null, vI 0, vI 0, vI 0, vI 0, .null, vI 0] rfl rfl (Nat.ble_eq_true_of_le (by omega)) rfl (show h10 a = .inr (11, [.ref (a + 1), .ref (a + 2), .ref (a + 3), .ref (a + 4), vI 0, vI 0, vI 0, vI 0, vI 0, vI 0, .ref (a + 5), vI 0, vI 0, .null, vI 0, .null, .null, vI 0, vI 0, vI 0, vI 0, .null, vI 0]) from s10 0 _ rfl) rfl rfl ?_
  intro h11 e11 o11
  have s11 : hSeg h11 a [.inr (11, [.ref (a + 1), .ref (a + 2), .ref (a + 3), .ref (a + 4), vI 0, vI 0, vI 0, vI 0, vI 0, vI 0, .ref (a + 5), vI 0, vI (-1), .null, vI 0, .null, .null, vI 0, vI 0, vI 0, vI 0, .null, vI 0]), .inl (0, 62, .inl (eIA (fun _ => 0))), .inl (0, 496, .inl (eIA (fun _ => 0))), .inl (0, 62, .inl (eIA (fun _ => 0))), .inl (0, 62, .inl (eIA (fun _ => 0))), .inl (0, 60, .inl (eIA (fun _ => 0)))] := seg_put 0 s10 rfl e11 o11
  have c11 : eClH (a + 6) h11 = true := eClH_up c10 e11 (by simp only [vI, eClE, List.all_cons, List.all_nil, eClV, Bool.and_true, Bool.true_and, Bool.and_eq_true, Nat.ble_eq]; first | done | omega) o11
  have f11 : ∀ i, i < a → h11 i = h i := fun i hi => (o11 i (by omega)).trans (f10 i hi)
  refine eW_aload_n 51 rfl rfl rfl ?_
  refine eW_sipush 54 rfl rfl 330 rfl ?_
  refine eW_newX 56 1 (.inl (eIA (fun _ => 0))) rfl rfl (fun _ => rfl) (by omega) (eClA_of (by simp only [vI, eClL, eClV, List.all_cons, List.all_nil, Bool.and_true, Bool.and_eq_true, Bool.true_and, Nat.ble_eq]; first | done | omega) c11) ?_
  intro h12 e12 o12
  have s12 : hSeg h12 a [.inr (11, [.ref (a + 1), .ref (a + 2), .ref (a + 3), .ref (a + 4), vI 0, vI 0, vI 0, vI 0, vI 0, vI 0, .ref (a + 5), vI 0, vI (-1), .null, vI 0, .null, .null, vI 0, vI 0, vI 0, vI 0, .null, vI 0]), .inl (0, 62, .inl (eIA (fun _ => 0))), .inl (0, 496, .inl (eIA (fun _ => 0))), .inl (0, 62, .inl (eIA (fun _ => 0))), .inl (0, 62, .inl (eIA (fun _ => 0))), .inl (0, 60, .inl (eIA (fun _ => 0))), .inl (1, 330, .inl (eIA (fun _ => 0)))] := seg_new s11 rfl e12 o12
  have c12 : eClH (a + 7) h12 = true := eClH_new c11 e12 rfl o12
  have f12 : ∀ i, i < a → h12 i = h i := fun i hi => (o12 i (by omega)).trans (f11 i hi)
  refine eW_putfield 59 [.ref (a + 1), .ref (a + 2), .ref (a + 3), .ref (a + 4), vI 0, vI 0, vI 0, vI 0, vI 0, vI 0, .ref (a + 5), vI 0, vI (-1), .ref (a + 6), vI 0, .null, .null, vI 0, vI 0, vI 0, vI 0, .null, vI 0] rfl rfl (Nat.ble_eq_true_of_le (by omega)) rfl (show h12 a = .inr (11, [.ref (a + 1), .ref (a + 2), .ref (a + 3), .ref (a + 4), vI 0, vI 0, vI 0, vI 0, vI 0, vI 0, .ref (a + 5), vI 0, vI (-1), .null, vI 0, .null, .null, vI 0, vI 0, vI 0, vI 0, .null, vI 0]) from s12 0 _ rfl) rfl rfl ?_
  intro h13 e13 o13
  have s13 : hSeg h13 a [.inr (11, [.ref (a + 1), .ref (a + 2), .ref (a + 3), .ref (a + 4), vI 0, vI 0, vI 0, vI 0, vI 0, vI 0, .ref (a + 5), vI 0, vI (-1), .ref (a + 6), vI 0, .null, .null, vI 0, vI 0, vI 0, vI 0, .null, vI 0]), .inl (0, 62, .inl (eIA (fun _ => 0))), .inl (0, 496, .inl (eIA (fun _ => 0))), .inl (0, 62, .inl (eIA (fun _ => 0))), .inl (0, 62, .inl (eIA (fun _ => 0))), .inl (0, 60, .inl (eIA (fun _ => 0))), .inl (1, 330, .inl (eIA (fun _ => 0)))] := seg_put 0 s12 rfl e13 o13
  have c13 : eClH (a + 7) h13 = true := eClH_up c12 e13 (by simp only [vI, eClE, List.all_cons, List.all_nil, eClV, Bool.and_true, Bool.true_and, Bool.and_eq_true, Nat.ble_eq]; first | done | omega) o13
  have f13 : ∀ i, i < a → h13 i = h i := fun i hi => (o13 i (by omega)).trans (f12 i hi)
  refine eW_aload_n 60 rfl rfl rfl ?_
  refine eW_bipush 62 rfl rfl 31 rfl ?_
  refine eW_newX 64 0 (.inl (eIA (fun _ => 0))) rfl rfl (fun _ => rfl) (by omega) (eClA_of (by simp only [vI, eClL, eClV, List.all_cons, List.all_nil, Bool.and_true, Bool.and_eq_true, Bool.true_and, Nat.ble_eq]; first | done | omega) c13) ?_
  intro h14 e14 o14
  have s14 : hSeg h14 a [.inr (11, [.ref (a + 1), .ref (a + 2), .ref (a + 3), .ref (a + 4), vI 0, vI 0, vI 0, vI 0, vI 0, vI 0, .ref (a + 5), vI 0, vI (-1), .ref (a + 6), vI 0, .null, .null, vI 0, vI 0, vI 0, vI 0, .null, vI 0]), .inl (0, 62, .inl (eIA (fun _ => 0))), .inl (0, 496, .inl (eIA (fun _ => 0))), .inl (0, 62, .inl (eIA (fun _ => 0))), .inl (0, 62, .inl (eIA (fun _ => 0))), .inl (0, 60, .inl (eIA (fun _ => 0))), .inl (1, 330, .inl (eIA (fun _ => 0))), .inl (0, 31, .inl (eIA (fun _ => 0)))] := seg_new s13 rfl e14 o14
  have c14 : eClH (a + 8) h14 = true := eClH_new c13 e14 rfl o14
  have f14 : ∀ i, i < a → h14 i = h i := fun i hi => (o14 i (by omega)).trans (f13 i hi)
  refine eW_putfield 67 [.ref (a + 1), .ref (a + 2), .ref (a + 3), .ref (a + 4), vI 0, vI 0, vI 0, vI 0, vI 0, vI 0, .ref (a + 5), vI 0, vI (-1), .ref (a + 6), vI 0, .ref (a + 7), .null, vI 0, vI 0, vI 0, vI 0, .null, vI 0] rfl rfl (Nat.ble_eq_true_of_le (by omega)) rfl (show h14 a = .inr (11, [.ref (a + 1), .ref (a + 2), .ref (a + 3), .ref (a + 4), vI 0, vI 0, vI 0, vI 0, vI 0, vI 0, .ref (a + 5), vI 0, vI (-1), .ref (a + 6), vI 0, .null, .null, vI 0, vI 0, vI 0, vI 0, .null, vI 0]) from s14 0 _ rfl) rfl rfl ?_
  intro h15 e15 o15
  have s15 : hSeg h15 a [.inr (11, [.ref (a + 1), .ref (a + 2), .ref (a + 3), .ref (a + 4), vI 0, vI 0, vI 0, vI 0, vI 0, vI 0, .ref (a + 5), vI 0, vI (-1), .ref (a + 6), vI 0, .ref (a + 7), .null, vI 0, vI 0, vI 0, vI 0, .null, vI 0]), .inl (0, 62, .inl (eIA (fun _ => 0))), .inl (0, 496, .inl (eIA (fun _ => 0))), .inl (0, 62, .inl (eIA (fun _ => 0))), .inl (0, 62, .inl (eIA (fun _ => 0))), .inl (0, 60, .inl (eIA (fun _ => 0))), .inl (1, 330, .inl (eIA (fun _ => 0))), .inl (0, 31, .inl (eIA (fun _ => 0)))] := seg_put 0 s14 rfl e15 o15
  have c15 : eClH (a + 8) h15 = true := eClH_up c14 e15 (by simp only [vI, eClE, List.all_cons, List.all_nil, eClV, Bool.and_true, Bool.true_and, Bool.and_eq_true, Nat.ble_eq]; first | done | omega) o15
  have f15 : ∀ i, i < a → h15 i = h i := fun i hi => (o15 i (by omega)).trans (f14 i hi)
  refine eW_aload_n 68 rfl rfl rfl ?_
  refine eW_sipush 71 rfl rfl 256 rfl ?_
  refine eW_newX 73 2 (.inl (eIA (fun _ => 0))) rfl rfl (fun _ => rfl) (by omega) (eClA_of (by simp only [vI, eClL, eClV, List.all_cons, List.all_nil, Bool.and_true, Bool.and_eq_true, Bool.true_and, Nat.ble_eq]; first | done | omega) c15) ?_
  intro h16 e16 o16
  have s16 : hSeg h16 a [.inr (11, [.ref (a + 1), .ref (a + 2), .ref (a + 3), .ref (a + 4), vI 0, vI 0, vI 0, vI 0, vI 0, vI 0, .ref (a + 5), vI 0, vI (-1), .ref (a + 6), vI 0, .ref (a + 7), .null, vI 0, vI 0, vI 0, vI 0, .null, vI 0]), .inl (0, 62, .inl (eIA (fun _ => 0))), .inl (0, 496, .inl (eIA (fun _ => 0))), .inl (0, 62, .inl (eIA (fun _ => 0))), .inl (0, 62, .inl (eIA (fun _ => 0))), .inl (0, 60, .inl (eIA (fun _ => 0))), .inl (1, 330, .inl (eIA (fun _ => 0))), .inl (0, 31, .inl (eIA (fun _ => 0))), .inl (2, 256, .inl (eIA (fun _ => 0)))] := seg_new s15 rfl e16 o16
  have c16 : eClH (a + 9) h16 = true := eClH_new c15 e16 rfl o16
  have f16 : ∀ i, i < a → h16 i = h i := fun i hi => (o16 i (by omega)).trans (f15 i hi)
  refine eW_putfield 76 [.ref (a + 1), .ref (a + 2), .ref (a + 3), .ref (a + 4), vI 0, vI 0, vI 0, vI 0, vI 0, vI 0, .ref (a + 5), vI 0, vI (-1), .ref (a + 6), vI 0, .ref (a + 7), .ref (a + 8), vI 0, vI 0, vI 0, vI 0, .null, vI 0] rfl rfl (Nat.ble_eq_true_of_le (by omega)) rfl (show h16 a = .inr (11, [.ref (a + 1), .ref (a + 2), .ref (a + 3), .ref (a + 4), vI 0, vI 0, vI 0, vI 0, vI 0, vI 0, .ref (a + 5), vI 0, vI (-1), .ref (a + 6), vI 0, .ref (a + 7), .null, vI 0, vI 0, vI 0, vI 0, .null, vI 0]) from s16 0 _ rfl) rfl rfl ?_
  intro h17 e17 o17
  have s17 : hSeg h17 a [.inr (11, [.ref (a + 1), .ref (a + 2), .ref (a + 3), .ref (a + 4), vI 0, vI 0, vI 0, vI 0, vI 0, vI 0, .ref (a + 5), vI 0, vI (-1), .ref (a + 6), vI 0, .ref (a + 7), .ref (a + 8), vI 0, vI 0, vI 0, vI 0, .null, vI 0]), .inl (0, 62, .inl (eIA (fun _ => 0))), .inl (0, 496, .inl (eIA (fun _ => 0))), .inl (0, 62, .inl (eIA (fun _ => 0))), .inl (0, 62, .inl (eIA (fun _ => 0))), .inl (0, 60, .inl (eIA (fun _ => 0))), .inl (1, 330, .inl (eIA (fun _ => 0))), .inl (0, 31, .inl (eIA (fun _ => 0))), .inl (2, 256, .inl (eIA (fun _ => 0)))] := seg_put 0 s16 rfl e17 o17
  have c17 : eClH (a + 9) h17 = true := eClH_up c16 e17 (by simp only [vI, eClE, List.all_cons, List.all_nil, eClV, Bool.and_true, Bool.true_and, Bool.and_eq_true, Nat.ble_eq]; first | done | omega) o17
  have f17 : ∀ i, i < a → h17 i = h i := fun i hi => (o17 i (by omega)).trans (f16 i hi)
  refine eW_aload_n 77 rfl rfl rfl ?_
  refine eW_bipush 79 rfl rfl 124 rfl ?_
  refine eW_newX 81 0 (.inl (eIA (fun _ => 0))) rfl rfl (fun _ => rfl) (by omega) (eClA_of (by simp only [vI, eClL, eClV, List.all_cons, List.all_nil, Bool.and_true, Bool.and_eq_true, Bool.true_and, Nat.ble_eq]; first | done | omega) c17) ?_
  intro h18 e18 o18
  have s18 : hSeg h18 a [.inr (11, [.ref (a + 1), .ref (a + 2), .ref (a + 3), .ref (a + 4), vI 0, vI 0, vI 0, vI 0, vI 0, vI 0, .ref (a + 5), vI 0, vI (-1), .ref (a + 6), vI 0, .ref (a + 7), .ref (a + 8), vI 0, vI 0, vI 0, vI 0, .null, vI 0]), .inl (0, 62, .inl (eIA (fun _ => 0))), .inl (0, 496, .inl (eIA (fun _ => 0))), .inl (0, 62, .inl (eIA (fun _ => 0))), .inl (0, 62, .inl (eIA (fun _ => 0))), .inl (0, 60, .inl (eIA (fun _ => 0))), .inl (1, 330, .inl (eIA (fun _ => 0))), .inl (0, 31, .inl (eIA (fun _ => 0))), .inl (2, 256, .inl (eIA (fun _ => 0))), .inl (0, 124, .inl (eIA (fun _ => 0)))] := seg_new s17 rfl e18 o18
  have c18 : eClH (a + 10) h18 = true := eClH_new c17 e18 rfl o18
  have f18 : ∀ i, i < a → h18 i = h i := fun i hi => (o18 i (by omega)).trans (f17 i hi)
  refine eW_putfield 84 [.ref (a + 1), .ref (a + 2), .ref (a + 3), .ref (a + 4), vI 0, vI 0, vI 0, vI 0, vI 0, vI 0, .ref (a + 5), vI 0, vI (-1), .ref (a + 6), vI 0, .ref (a + 7), .ref (a + 8), vI 0, vI 0, vI 0, vI 0, .ref (a + 9), vI 0] rfl rfl (Nat.ble_eq_true_of_le (by omega)) rfl (show h18 a = .inr (11, [.ref (a + 1), .ref (a + 2), .ref (a + 3), .ref (a + 4), vI 0, vI 0, vI 0, vI 0, vI 0, vI 0, .ref (a + 5), vI 0, vI (-1), .ref (a + 6), vI 0, .ref (a + 7), .ref (a + 8), vI 0, vI 0, vI 0, vI 0, .null, vI 0]) from s18 0 _ rfl) rfl rfl ?_
  intro h19 e19 o19
  have s19 : hSeg h19 a [.inr (11, [.ref (a + 1), .ref (a + 2), .ref (a + 3), .ref (a + 4), vI 0, vI 0, vI 0, vI 0, vI 0, vI 0, .ref (a + 5), vI 0, vI (-1), .ref (a + 6), vI 0, .ref (a + 7), .ref (a + 8), vI 0, vI 0, vI 0, vI 0, .ref (a + 9), vI 0]), .inl (0, 62, .inl (eIA (fun _ => 0))), .inl (0, 496, .inl (eIA (fun _ => 0))), .inl (0, 62, .inl (eIA (fun _ => 0))), .inl (0, 62, .inl (eIA (fun _ => 0))), .inl (0, 60, .inl (eIA (fun _ => 0))), .inl (1, 330, .inl (eIA (fun _ => 0))), .inl (0, 31, .inl (eIA (fun _ => 0))), .inl (2, 256, .inl (eIA (fun _ => 0))), .inl (0, 124, .inl (eIA (fun _ => 0)))] := seg_put 0 s18 rfl e19 o19
  have c19 : eClH (a + 10) h19 = true := eClH_up c18 e19 (by simp only [vI, eClE, List.all_cons, List.all_nil, eClV, Bool.and_true, Bool.true_and, Bool.and_eq_true, Nat.ble_eq]; first | done | omega) o19
  have f19 : ∀ i, i < a → h19 i = h i := fun i hi => (o19 i (by omega)).trans (f18 i hi)
  refine eW_aload_n 85 rfl rfl rfl ?_
  refine eW_getfield 88 rfl rfl (Nat.ble_eq_true_of_le (by omega)) rfl (show h19 a = .inr (11, [.ref (a + 1), .ref (a + 2), .ref (a + 3), .ref (a + 4), vI 0, vI 0, vI 0, vI 0, vI 0, vI 0, .ref (a + 5), vI 0, vI (-1), .ref (a + 6), vI 0, .ref (a + 7), .ref (a + 8), vI 0, vI 0, vI 0, vI 0, .ref (a + 9), vI 0]) from s19 0 _ rfl) rfl ⟨rfl, fun _ h9 => nomatch h9⟩ ?_
  refine eW_bipush 90 rfl rfl 7 rfl ?_
  refine eW_iconst 91 rfl rfl ?_
  refine eW_iastore 92 rfl rfl (Nat.ble_eq_true_of_le (by omega)) (show h19 (a + 1) = .inl (0, 62, .inl (eIA (fun _ => 0))) from s19 1 _ rfl) (by omega) (by omega) (by unfold i32; omega) rfl ?_
  intro h20 e20 o20
  have s20 : hSeg h20 a [.inr (11, [.ref (a + 1), .ref (a + 2), .ref (a + 3), .ref (a + 4), vI 0, vI 0, vI 0, vI 0, vI 0, vI 0, .ref (a + 5), vI 0, vI (-1), .ref (a + 6), vI 0, .ref (a + 7), .ref (a + 8), vI 0, vI 0, vI 0, vI 0, .ref (a + 9), vI 0]), .inl (0, 62, .inl (eIA (eUp (fun _ => 0) 7 (-1)))), .inl (0, 496, .inl (eIA (fun _ => 0))), .inl (0, 62, .inl (eIA (fun _ => 0))), .inl (0, 62, .inl (eIA (fun _ => 0))), .inl (0, 60, .inl (eIA (fun _ => 0))), .inl (1, 330, .inl (eIA (fun _ => 0))), .inl (0, 31, .inl (eIA (fun _ => 0))), .inl (2, 256, .inl (eIA (fun _ => 0))), .inl (0, 124, .inl (eIA (fun _ => 0)))] := seg_put 1 s19 rfl e20 o20
  have c20 : eClH (a + 10) h20 = true := eClH_up c19 e20 rfl o20
  have f20 : ∀ i, i < a → h20 i = h i := fun i hi => (o20 i (by omega)).trans (f19 i hi)
  refine eW_aload_n 93 rfl rfl rfl ?_
  refine eW_getfield 96 rfl rfl (Nat.ble_eq_true_of_le (by omega)) rfl (show h20 a = .inr (11, [.ref (a + 1), .ref (a + 2), .ref (a + 3), .ref (a + 4), vI 0, vI 0, vI 0, vI 0, vI 0, vI 0, .ref (a + 5), vI 0, vI (-1), .ref (a + 6), vI 0, .ref (a + 7), .ref (a + 8), vI 0, vI 0, vI 0, vI 0, .ref (a + 9), vI 0]) from s20 0 _ rfl) rfl ⟨rfl, fun _ h9 => nomatch h9⟩ ?_
  refine eW_bipush 98 rfl rfl 8 rfl ?_
  refine eW_bipush 100 rfl rfl 7 rfl ?_
  refine eW_iastore 101 rfl rfl (Nat.ble_eq_true_of_le (by omega)) (show h20 (a + 1) = .inl (0, 62, .inl (eIA (eUp (fun _ => 0) 7 (-1)))) from s20 1 _ rfl) (by omega) (by omega) (by unfold i32; omega) rfl ?_
  intro h21 e21 o21
  have s21 : hSeg h21 a [.inr (11, [.ref (a + 1), .ref (a + 2), .ref (a + 3), .ref (a + 4), vI 0, vI 0, vI 0, vI 0, vI 0, vI 0, .ref (a + 5), vI 0, vI (-1), .ref (a + 6), vI 0, .ref (a + 7), .ref (a + 8), vI 0, vI 0, vI 0, vI 0, .ref (a + 9), vI 0]), .inl (0, 62, .inl (eIA (eUp (eUp (fun _ => 0) 7 (-1)) 8 7))), .inl (0, 496, .inl (eIA (fun _ => 0))), .inl (0, 62, .inl (eIA (fun _ => 0))), .inl (0, 62, .inl (eIA (fun _ => 0))), .inl (0, 60, .inl (eIA (fun _ => 0))), .inl (1, 330, .inl (eIA (fun _ => 0))), .inl (0, 31, .inl (eIA (fun _ => 0))), .inl (2, 256, .inl (eIA (fun _ => 0))), .inl (0, 124, .inl (eIA (fun _ => 0)))] := seg_put 1 s20 rfl e21 o21
  have c21 : eClH (a + 10) h21 = true := eClH_up c20 e21 rfl o21
  have f21 : ∀ i, i < a → h21 i = h i := fun i hi => (o21 i (by omega)).trans (f20 i hi)
  refine eW_aload_n 102 rfl rfl rfl ?_
  refine eW_getfield 105 rfl rfl (Nat.ble_eq_true_of_le (by omega)) rfl (show h21 a = .inr (11, [.ref (a + 1), .ref (a + 2), .ref (a + 3), .ref (a + 4), vI 0, vI 0, vI 0, vI 0, vI 0, vI 0, .ref (a + 5), vI 0, vI (-1), .ref (a + 6), vI 0, .ref (a + 7), .ref (a + 8), vI 0, vI 0, vI 0, vI 0, .ref (a + 9), vI 0]) from s21 0 _ rfl) rfl ⟨rfl, fun _ h9 => nomatch h9⟩ ?_
  refine eW_bipush 107 rfl rfl 9 rfl ?_
  refine eW_bipush 109 rfl rfl 7 rfl ?_
  refine eW_iastore 110 rfl rfl (Nat.ble_eq_true_of_le (by omega)) (show h21 (a + 1) = .inl (0, 62, .inl (eIA (eUp (eUp (fun _ => 0) 7 (-1)) 8 7))) from s21 1 _ rfl) (by omega) (by omega) (by unfold i32; omega) rfl ?_
  intro h22 e22 o22
  have s22 : hSeg h22 a [.inr (11, [.ref (a + 1), .ref (a + 2), .ref (a + 3), .ref (a + 4), vI 0, vI 0, vI 0, vI 0, vI 0, vI 0, .ref (a + 5), vI 0, vI (-1), .ref (a + 6), vI 0, .ref (a + 7), .ref (a + 8), vI 0, vI 0, vI 0, vI 0, .ref (a + 9), vI 0]), .inl (0, 62, .inl (eIA (eUp (eUp (eUp (fun _ => 0) 7 (-1)) 8 7) 9 7))), .inl (0, 496, .inl (eIA (fun _ => 0))), .inl (0, 62, .inl (eIA (fun _ => 0))), .inl (0, 62, .inl (eIA (fun _ => 0))), .inl (0, 60, .inl (eIA (fun _ => 0))), .inl (1, 330, .inl (eIA (fun _ => 0))), .inl (0, 31, .inl (eIA (fun _ => 0))), .inl (2, 256, .inl (eIA (fun _ => 0))), .inl (0, 124, .inl (eIA (fun _ => 0)))] := seg_put 1 s21 rfl e22 o22
  have c22 : eClH (a + 10) h22 = true := eClH_up c21 e22 rfl o22
  have f22 : ∀ i, i < a → h22 i = h i := fun i hi => (o22 i (by omega)).trans (f21 i hi)
  refine eW_ret rfl rfl ?_
  exact ⟨h22, rfl, s22, f22, c22⟩
