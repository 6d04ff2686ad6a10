/-! the law's cases, walked -/
set_option maxRecDepth 20000 in
theorem lc_0 {ox : Nat → Option (Nat × Nat × (Nat → Int32))} {d N n k z : Nat} {h : eHp} {xs : Nat → Int} {i : Int} {P : eR → Prop} (hox : ox 0 = some (0, n, eIA xs)) (hxs : ∀ j, i32 (xs j)) (hi : 0 ≤ i ∧ i + 4 ≤ n) (hn : n ≤ 2048) (hN : 75 ≤ N) {r : Int ⊕ String} {l : List String} {FF : Nat → eHp → Nat → Nat → Prop} (hr : ∀ E, r = .inr E → 1 ≤ lCd l E ∧ lCd l E ≤ 3) (hL : eSp (d + 1) eM_L_pit [.ref 0, vI (xs (i + 1).toNat), .ref 73] N h (lR 73 lRow73 lH73 r l FF)) {FI : Nat → Nat → Nat → eHp → Prop} (hM : ∀ N1 g1 h1 k1 z1, FF N1 g1 k1 z1 → (∀ i, i ≠ 73 → h1 i = g1 i) → lRow73 (h1 73) → 75 ≤ N1 ∧ (∃ fs, h1 63 = .inr (11, fs)) ∧ eSp (d + 1) eM_X7_pit [.ref 63, vI (xs (i + 1).toNat)] N1 h1 (lM r l N1 h1 (FI N1 k1 z1))) (kk : ∀ N1 k1 z1 h1, FI N1 k1 z1 h1 → eWp ox (eEv (d + 1)) eM_L_law (1930, [(0, .retAddr 0), (1, .ref 0), (2, .ref 63), (3, .ref 73), (4, .ref 74), (5, vI i)], [], N1, h1, k + k1, z + z1) P) : eWp ox (eEv (d + 1)) eM_L_law (196, [(0, .retAddr 0), (1, .ref 0), (2, .ref 63), (3, .ref 73), (4, .ref 74), (5, vI i)], [], N, h, k, z) P := by
  refine eW_aload_n 197 rfl rfl rfl ?_
  refine eW_aload_n_out 198 rfl rfl rfl ?_
  refine eW_iload 200 rfl rfl rfl ?_
  refine eW_iconst 201 rfl rfl ?_
  refine eW_iadd 202 rfl rfl ?_
  refine eW_iaload_o 203 rfl rfl (xs (i + 1).toNat) hox (by omega) (by omega) (by unfold i32; omega) rfl ?_
  refine eW_aload_n 204 rfl rfl rfl ?_
  refine eW_callM 207 [.ref 0, vI (xs (i + 1).toNat), .ref 73] [] (eS_callS rfl rfl (Or.inl rfl) rfl) rfl rfl rfl (by simp only [vI, eClL, eClV, List.all_cons, List.all_nil, Bool.and_true, Bool.and_eq_true, Bool.true_and, Nat.ble_eq]; first | done | omega) (lR_M hL) ?_
  intro v1 n1 h1 a1 b1 f1
  obtain ⟨x1, g1, rfl, hF, ho, hw, hx⟩ := f1
  show eWp _ _ _ (207, [(0, .retAddr 0), (1, .ref 0), (2, .ref 63), (3, .ref 73), (4, .ref 74), (5, vI i)], [vI x1], _, h1, _, _) _
  refine eW_istore 209 rfl rfl [(6, vI x1), (0, .retAddr 0), (1, .ref 0), (2, .ref 63), (3, .ref 73), (4, .ref 74), (5, vI i)] rfl rfl ?_
  obtain ⟨hN1, ⟨fs1, e63⟩, hm⟩ := hM _ _ _ _ _ hF ho hw
  refine eW_aload_n 210 rfl rfl rfl ?_
  refine eW_aload_n_out 211 rfl rfl rfl ?_
  refine eW_iload 213 rfl rfl rfl ?_
  refine eW_iconst 214 rfl rfl ?_
  refine eW_iadd 215 rfl rfl ?_
  refine eW_iaload_o 216 rfl rfl (xs (i + 1).toNat) hox (by omega) (by omega) (by unfold i32; omega) rfl ?_
  refine eW_callM 219 [.ref 63, vI (xs (i + 1).toNat)] [] (eS_callV rfl rfl rfl (Nat.ble_eq_true_of_le (by omega)) e63 rfl) rfl rfl rfl (by simp only [vI, eClL, eClV, List.all_cons, List.all_nil, Bool.and_true, Bool.and_eq_true, Bool.true_and, Nat.ble_eq]; first | done | omega) (lM_M hm) ?_
  intro v2 n2 h2 a2 b2 f2
  obtain ⟨x2, s2, A2, rfl, rfl, rfl, rfl, hm2, ew, hx2, hFI⟩ := f2
  show eWp _ _ _ (219, [(6, vI x1), (0, .retAddr 0), (1, .ref 0), (2, .ref 63), (3, .ref 73), (4, .ref 74), (5, vI i)], [vI x2], _, h2, _, _) _
  refine eW_istore 221 rfl rfl [(7, vI x2), (6, vI x1), (0, .retAddr 0), (1, .ref 0), (2, .ref 63), (3, .ref 73), (4, .ref 74), (5, vI i)] rfl rfl ?_
  refine eW_aload_n 222 rfl rfl rfl ?_
  refine eW_callM 225 [.ref 63] [] (eS_callV rfl rfl rfl (Nat.ble_eq_true_of_le (by omega)) hm2.1 rfl) rfl rfl rfl (by simp only [vI, eClL, eClV, List.all_cons, List.all_nil, Bool.and_true, Bool.and_eq_true, Bool.true_and, Nat.ble_eq]; first | done | omega) (eRet_M (m_thrown (d := d) hm2 hN1)) ?_
  intro v3 n3 h3 a3 b3 f3
  obtain ⟨rfl, rfl, rfl, rfl, rfl⟩ := f3
  show eWp _ _ _ (225, [(7, vI x2), (6, vI x1), (0, .retAddr 0), (1, .ref 0), (2, .ref 63), (3, .ref 73), (4, .ref 74), (5, vI i)], [vI (s2 7)], _, _, _, _) _
  refine eW_iload 227 rfl rfl rfl ?_
  cases r with
  | inr E =>
    have hE := hr E rfl
    have hx1 : x1 = lCd l E := hx
    have hx3 : s2 7 = lCd l E := hx2
    refine eW_icmp_eqE rfl (hx3.trans hx1.symm) ?_
    refine eW_iload 234 rfl rfl rfl ?_
    refine eW_if_ne 237 rfl rfl (by unfold i32; omega) (fun _ => ?_) (fun c9 => absurd (show x1 ≠ 0 by omega) c9)
    refine eW_goto rfl ?_
    refine eW_reU [(0, .retAddr 0), (1, .ref 0), (2, .ref 63), (3, .ref 73), (4, .ref 74), (5, vI i)] rfl rfl (List.forall_mem_cons.mpr ⟨rfl, List.forall_mem_cons.mpr ⟨rfl, List.forall_mem_cons.mpr ⟨rfl, List.forall_mem_cons.mpr ⟨rfl, List.forall_mem_cons.mpr ⟨rfl, List.forall_mem_cons.mpr ⟨rfl, fun _ h => absurd h List.not_mem_nil⟩⟩⟩⟩⟩⟩) (List.forall_mem_cons.mpr ⟨Or.inr (Or.inl ⟨_, rfl⟩), List.forall_mem_cons.mpr ⟨Or.inr (Or.inl ⟨_, rfl⟩), List.forall_mem_cons.mpr ⟨Or.inl rfl, List.forall_mem_cons.mpr ⟨Or.inl rfl, List.forall_mem_cons.mpr ⟨Or.inl rfl, List.forall_mem_cons.mpr ⟨Or.inl rfl, List.forall_mem_cons.mpr ⟨Or.inl rfl, List.forall_mem_cons.mpr ⟨Or.inl rfl, fun _ h => absurd h List.not_mem_nil⟩⟩⟩⟩⟩⟩⟩⟩) ?_
    exact kk n1 a1 b1 _ hFI
  | inl a =>
    obtain ⟨hx1, F9, e9, e90⟩ := hx
    obtain ⟨hx3, hxa⟩ := hx2
    subst hx1; subst hxa
    refine eW_icmp_eqE rfl hx3 ?_
    refine eW_iload 234 rfl rfl rfl ?_
    refine eW_if_ne 237 rfl rfl (by unfold i32; omega) (fun c9 => absurd rfl c9) (fun _ => ?_)
    refine eW_aload_n 238 rfl rfl rfl ?_
    refine eW_iconst 239 rfl rfl ?_
    refine eW_laloadx 240 rfl rfl (Int32.ofInt x2).toInt64 (Nat.ble_eq_true_of_le (by omega)) (ew.trans e9) (by omega) (by omega) (by unfold i32; omega) e90 ?_
    refine eW_iload 242 rfl rfl rfl ?_
    refine eW_i2lx 243 rfl rfl ?_
    refine eW_lcmpE 244 rfl rfl rfl ?_
    refine eW_if_eq 247 rfl rfl (by unfold i32; omega) (fun _ => ?_) (fun c9 => absurd rfl c9)
    refine eW_goto rfl ?_
    refine eW_reU [(0, .retAddr 0), (1, .ref 0), (2, .ref 63), (3, .ref 73), (4, .ref 74), (5, vI i)] rfl rfl (List.forall_mem_cons.mpr ⟨rfl, List.forall_mem_cons.mpr ⟨rfl, List.forall_mem_cons.mpr ⟨rfl, List.forall_mem_cons.mpr ⟨rfl, List.forall_mem_cons.mpr ⟨rfl, List.forall_mem_cons.mpr ⟨rfl, fun _ h => absurd h List.not_mem_nil⟩⟩⟩⟩⟩⟩) (List.forall_mem_cons.mpr ⟨Or.inr (Or.inl ⟨_, rfl⟩), List.forall_mem_cons.mpr ⟨Or.inr (Or.inl ⟨_, rfl⟩), List.forall_mem_cons.mpr ⟨Or.inl rfl, List.forall_mem_cons.mpr ⟨Or.inl rfl, List.forall_mem_cons.mpr ⟨Or.inl rfl, List.forall_mem_cons.mpr ⟨Or.inl rfl, List.forall_mem_cons.mpr ⟨Or.inl rfl, List.forall_mem_cons.mpr ⟨Or.inl rfl, fun _ h => absurd h List.not_mem_nil⟩⟩⟩⟩⟩⟩⟩⟩) ?_
    exact kk n1 a1 b1 _ hFI
set_option maxRecDepth 20000 in
theorem lc_1 {ox : Nat → Option (Nat × Nat × (Nat → Int32))} {d N n k z : Nat} {h : eHp} {xs : Nat → Int} {i : Int} {P : eR → Prop} (hox : ox 0 = some (0, n, eIA xs)) (hxs : ∀ j, i32 (xs j)) (hi : 0 ≤ i ∧ i + 4 ≤ n) (hn : n ≤ 2048) (hN : 75 ≤ N) {r : Int ⊕ String} {l : List String} {FF : Nat → eHp → Nat → Nat → Prop} (hr : ∀ E, r = .inr E → 1 ≤ lCd l E ∧ lCd l E ≤ 3) (hL : eSp (d + 1) eM_L_digit [.ref 0, vI (xs (i + 1).toNat), vI (xs (i + 2).toNat), .ref 73] N h (lR 73 lRow73 lH73 r l FF)) {FI : Nat → Nat → Nat → eHp → Prop} (hM : ∀ N1 g1 h1 k1 z1, FF N1 g1 k1 z1 → (∀ i, i ≠ 73 → h1 i = g1 i) → lRow73 (h1 73) → 75 ≤ N1 ∧ (∃ fs, h1 63 = .inr (11, fs)) ∧ eSp (d + 1) eM_X7_digit [.ref 63, vI (xs (i + 1).toNat), vI (xs (i + 2).toNat)] N1 h1 (lM r l N1 h1 (FI N1 k1 z1))) (kk : ∀ N1 k1 z1 h1, FI N1 k1 z1 h1 → eWp ox (eEv (d + 1)) eM_L_law (1930, [(0, .retAddr 0), (1, .ref 0), (2, .ref 63), (3, .ref 73), (4, .ref 74), (5, vI i)], [], N1, h1, k + k1, z + z1) P) : eWp ox (eEv (d + 1)) eM_L_law (252, [(0, .retAddr 0), (1, .ref 0), (2, .ref 63), (3, .ref 73), (4, .ref 74), (5, vI i)], [], N, h, k, z) P := by
  refine eW_aload_n 253 rfl rfl rfl ?_
  refine eW_aload_n_out 254 rfl rfl rfl ?_
  refine eW_iload 256 rfl rfl rfl ?_
  refine eW_iconst 257 rfl rfl ?_
  refine eW_iadd 258 rfl rfl ?_
  refine eW_iaload_o 259 rfl rfl (xs (i + 1).toNat) hox (by omega) (by omega) (by unfold i32; omega) rfl ?_
  refine eW_aload_n_out 260 rfl rfl rfl ?_
  refine eW_iload 262 rfl rfl rfl ?_
  refine eW_iconst 263 rfl rfl ?_
  refine eW_iadd 264 rfl rfl ?_
  refine eW_iaload_o 265 rfl rfl (xs (i + 2).toNat) hox (by omega) (by omega) (by unfold i32; omega) rfl ?_
  refine eW_aload_n 266 rfl rfl rfl ?_
  refine eW_callM 269 [.ref 0, vI (xs (i + 1).toNat), vI (xs (i + 2).toNat), .ref 73] [] (eS_callS rfl rfl (Or.inl rfl) rfl) rfl rfl rfl (by simp only [vI, eClL, eClV, List.all_cons, List.all_nil, Bool.and_true, Bool.and_eq_true, Bool.true_and, Nat.ble_eq]; first | done | omega) (lR_M hL) ?_
  intro v1 n1 h1 a1 b1 f1
  obtain ⟨x1, g1, rfl, hF, ho, hw, hx⟩ := f1
  show eWp _ _ _ (269, [(0, .retAddr 0), (1, .ref 0), (2, .ref 63), (3, .ref 73), (4, .ref 74), (5, vI i)], [vI x1], _, h1, _, _) _
  refine eW_istore 271 rfl rfl [(6, vI x1), (0, .retAddr 0), (1, .ref 0), (2, .ref 63), (3, .ref 73), (4, .ref 74), (5, vI i)] rfl rfl ?_
  obtain ⟨hN1, ⟨fs1, e63⟩, hm⟩ := hM _ _ _ _ _ hF ho hw
  refine eW_aload_n 272 rfl rfl rfl ?_
  refine eW_aload_n_out 273 rfl rfl rfl ?_
  refine eW_iload 275 rfl rfl rfl ?_
  refine eW_iconst 276 rfl rfl ?_
  refine eW_iadd 277 rfl rfl ?_
  refine eW_iaload_o 278 rfl rfl (xs (i + 1).toNat) hox (by omega) (by omega) (by unfold i32; omega) rfl ?_
  refine eW_aload_n_out 279 rfl rfl rfl ?_
  refine eW_iload 281 rfl rfl rfl ?_
  refine eW_iconst 282 rfl rfl ?_
  refine eW_iadd 283 rfl rfl ?_
  refine eW_iaload_o 284 rfl rfl (xs (i + 2).toNat) hox (by omega) (by omega) (by unfold i32; omega) rfl ?_
  refine eW_callM 287 [.ref 63, vI (xs (i + 1).toNat), vI (xs (i + 2).toNat)] [] (eS_callV rfl rfl rfl (Nat.ble_eq_true_of_le (by omega)) e63 rfl) rfl rfl rfl (by simp only [vI, eClL, eClV, List.all_cons, List.all_nil, Bool.and_true, Bool.and_eq_true, Bool.true_and, Nat.ble_eq]; first | done | omega) (lM_M hm) ?_
  intro v2 n2 h2 a2 b2 f2
  obtain ⟨x2, s2, A2, rfl, rfl, rfl, rfl, hm2, ew, hx2, hFI⟩ := f2
  show eWp _ _ _ (287, [(6, vI x1), (0, .retAddr 0), (1, .ref 0), (2, .ref 63), (3, .ref 73), (4, .ref 74), (5, vI i)], [vI x2], _, h2, _, _) _
  refine eW_istore 289 rfl rfl [(7, vI x2), (6, vI x1), (0, .retAddr 0), (1, .ref 0), (2, .ref 63), (3, .ref 73), (4, .ref 74), (5, vI i)] rfl rfl ?_
  refine eW_aload_n 290 rfl rfl rfl ?_
  refine eW_callM 293 [.ref 63] [] (eS_callV rfl rfl rfl (Nat.ble_eq_true_of_le (by omega)) hm2.1 rfl) rfl rfl rfl (by simp only [vI, eClL, eClV, List.all_cons, List.all_nil, Bool.and_true, Bool.and_eq_true, Bool.true_and, Nat.ble_eq]; first | done | omega) (eRet_M (m_thrown (d := d) hm2 hN1)) ?_
  intro v3 n3 h3 a3 b3 f3
  obtain ⟨rfl, rfl, rfl, rfl, rfl⟩ := f3
  show eWp _ _ _ (293, [(7, vI x2), (6, vI x1), (0, .retAddr 0), (1, .ref 0), (2, .ref 63), (3, .ref 73), (4, .ref 74), (5, vI i)], [vI (s2 7)], _, _, _, _) _
  refine eW_iload 295 rfl rfl rfl ?_
  cases r with
  | inr E =>
    have hE := hr E rfl
    have hx1 : x1 = lCd l E := hx
    have hx3 : s2 7 = lCd l E := hx2
    refine eW_icmp_eqE rfl (hx3.trans hx1.symm) ?_
    refine eW_iload 302 rfl rfl rfl ?_
    refine eW_if_ne 305 rfl rfl (by unfold i32; omega) (fun _ => ?_) (fun c9 => absurd (show x1 ≠ 0 by omega) c9)
    refine eW_goto rfl ?_
    refine eW_reU [(0, .retAddr 0), (1, .ref 0), (2, .ref 63), (3, .ref 73), (4, .ref 74), (5, vI i)] rfl rfl (List.forall_mem_cons.mpr ⟨rfl, List.forall_mem_cons.mpr ⟨rfl, List.forall_mem_cons.mpr ⟨rfl, List.forall_mem_cons.mpr ⟨rfl, List.forall_mem_cons.mpr ⟨rfl, List.forall_mem_cons.mpr ⟨rfl, fun _ h => absurd h List.not_mem_nil⟩⟩⟩⟩⟩⟩) (List.forall_mem_cons.mpr ⟨Or.inr (Or.inl ⟨_, rfl⟩), List.forall_mem_cons.mpr ⟨Or.inr (Or.inl ⟨_, rfl⟩), List.forall_mem_cons.mpr ⟨Or.inl rfl, List.forall_mem_cons.mpr ⟨Or.inl rfl, List.forall_mem_cons.mpr ⟨Or.inl rfl, List.forall_mem_cons.mpr ⟨Or.inl rfl, List.forall_mem_cons.mpr ⟨Or.inl rfl, List.forall_mem_cons.mpr ⟨Or.inl rfl, fun _ h => absurd h List.not_mem_nil⟩⟩⟩⟩⟩⟩⟩⟩) ?_
    exact kk n1 a1 b1 _ hFI
  | inl a =>
    obtain ⟨hx1, F9, e9, e90⟩ := hx
    obtain ⟨hx3, hxa⟩ := hx2
    subst hx1; subst hxa
    refine eW_icmp_eqE rfl hx3 ?_
    refine eW_iload 302 rfl rfl rfl ?_
    refine eW_if_ne 305 rfl rfl (by unfold i32; omega) (fun c9 => absurd rfl c9) (fun _ => ?_)
    refine eW_aload_n 306 rfl rfl rfl ?_
    refine eW_iconst 307 rfl rfl ?_
    refine eW_laloadx 308 rfl rfl (Int32.ofInt x2).toInt64 (Nat.ble_eq_true_of_le (by omega)) (ew.trans e9) (by omega) (by omega) (by unfold i32; omega) e90 ?_
    refine eW_iload 310 rfl rfl rfl ?_
    refine eW_i2lx 311 rfl rfl ?_
    refine eW_lcmpE 312 rfl rfl rfl ?_
    refine eW_if_eq 315 rfl rfl (by unfold i32; omega) (fun _ => ?_) (fun c9 => absurd rfl c9)
    refine eW_goto rfl ?_
    refine eW_reU [(0, .retAddr 0), (1, .ref 0), (2, .ref 63), (3, .ref 73), (4, .ref 74), (5, vI i)] rfl rfl (List.forall_mem_cons.mpr ⟨rfl, List.forall_mem_cons.mpr ⟨rfl, List.forall_mem_cons.mpr ⟨rfl, List.forall_mem_cons.mpr ⟨rfl, List.forall_mem_cons.mpr ⟨rfl, List.forall_mem_cons.mpr ⟨rfl, fun _ h => absurd h List.not_mem_nil⟩⟩⟩⟩⟩⟩) (List.forall_mem_cons.mpr ⟨Or.inr (Or.inl ⟨_, rfl⟩), List.forall_mem_cons.mpr ⟨Or.inr (Or.inl ⟨_, rfl⟩), List.forall_mem_cons.mpr ⟨Or.inl rfl, List.forall_mem_cons.mpr ⟨Or.inl rfl, List.forall_mem_cons.mpr ⟨Or.inl rfl, List.forall_mem_cons.mpr ⟨Or.inl rfl, List.forall_mem_cons.mpr ⟨Or.inl rfl, List.forall_mem_cons.mpr ⟨Or.inl rfl, fun _ h => absurd h List.not_mem_nil⟩⟩⟩⟩⟩⟩⟩⟩) ?_
    exact kk n1 a1 b1 _ hFI
set_option maxRecDepth 20000 in
theorem lc_2 {ox : Nat → Option (Nat × Nat × (Nat → Int32))} {d N n k z : Nat} {h : eHp} {xs : Nat → Int} {i : Int} {P : eR → Prop} (hox : ox 0 = some (0, n, eIA xs)) (hxs : ∀ j, i32 (xs j)) (hi : 0 ≤ i ∧ i + 4 ≤ n) (hn : n ≤ 2048) (hN : 75 ≤ N) {r : Int ⊕ String} {l : List String} {FF : Nat → eHp → Nat → Nat → Prop} (hr : ∀ E, r = .inr E → 1 ≤ lCd l E ∧ lCd l E ≤ 3) (hL : eSp (d + 1) eM_L_digitOf [.ref 0, vI (xs (i + 1).toNat), .ref 73] N h (lR 73 lRow73 lH73 r l FF)) {FI : Nat → Nat → Nat → eHp → Prop} (hM : ∀ N1 g1 h1 k1 z1, FF N1 g1 k1 z1 → (∀ i, i ≠ 73 → h1 i = g1 i) → lRow73 (h1 73) → 75 ≤ N1 ∧ (∃ fs, h1 63 = .inr (11, fs)) ∧ eSp (d + 1) eM_X7_digitOf [.ref 63, vI (xs (i + 1).toNat)] N1 h1 (lM r l N1 h1 (FI N1 k1 z1))) (kk : ∀ N1 k1 z1 h1, FI N1 k1 z1 h1 → eWp ox (eEv (d + 1)) eM_L_law (1930, [(0, .retAddr 0), (1, .ref 0), (2, .ref 63), (3, .ref 73), (4, .ref 74), (5, vI i)], [], N1, h1, k + k1, z + z1) P) : eWp ox (eEv (d + 1)) eM_L_law (320, [(0, .retAddr 0), (1, .ref 0), (2, .ref 63), (3, .ref 73), (4, .ref 74), (5, vI i)], [], N, h, k, z) P := by
  refine eW_aload_n 321 rfl rfl rfl ?_
  refine eW_aload_n_out 322 rfl rfl rfl ?_
  refine eW_iload 324 rfl rfl rfl ?_
  refine eW_iconst 325 rfl rfl ?_
  refine eW_iadd 326 rfl rfl ?_
  refine eW_iaload_o 327 rfl rfl (xs (i + 1).toNat) hox (by omega) (by omega) (by unfold i32; omega) rfl ?_
  refine eW_aload_n 328 rfl rfl rfl ?_
  refine eW_callM 331 [.ref 0, vI (xs (i + 1).toNat), .ref 73] [] (eS_callS rfl rfl (Or.inl rfl) rfl) rfl rfl rfl (by simp only [vI, eClL, eClV, List.all_cons, List.all_nil, Bool.and_true, Bool.and_eq_true, Bool.true_and, Nat.ble_eq]; first | done | omega) (lR_M hL) ?_
  intro v1 n1 h1 a1 b1 f1
  obtain ⟨x1, g1, rfl, hF, ho, hw, hx⟩ := f1
  show eWp _ _ _ (331, [(0, .retAddr 0), (1, .ref 0), (2, .ref 63), (3, .ref 73), (4, .ref 74), (5, vI i)], [vI x1], _, h1, _, _) _
  refine eW_istore 333 rfl rfl [(6, vI x1), (0, .retAddr 0), (1, .ref 0), (2, .ref 63), (3, .ref 73), (4, .ref 74), (5, vI i)] rfl rfl ?_
  obtain ⟨hN1, ⟨fs1, e63⟩, hm⟩ := hM _ _ _ _ _ hF ho hw
  refine eW_aload_n 334 rfl rfl rfl ?_
  refine eW_aload_n_out 335 rfl rfl rfl ?_
  refine eW_iload 337 rfl rfl rfl ?_
  refine eW_iconst 338 rfl rfl ?_
  refine eW_iadd 339 rfl rfl ?_
  refine eW_iaload_o 340 rfl rfl (xs (i + 1).toNat) hox (by omega) (by omega) (by unfold i32; omega) rfl ?_
  refine eW_callM 343 [.ref 63, vI (xs (i + 1).toNat)] [] (eS_callV rfl rfl rfl (Nat.ble_eq_true_of_le (by omega)) e63 rfl) rfl rfl rfl (by simp only [vI, eClL, eClV, List.all_cons, List.all_nil, Bool.and_true, Bool.and_eq_true, Bool.true_and, Nat.ble_eq]; first | done | omega) (lM_M hm) ?_
  intro v2 n2 h2 a2 b2 f2
  obtain ⟨x2, s2, A2, rfl, rfl, rfl, rfl, hm2, ew, hx2, hFI⟩ := f2
  show eWp _ _ _ (343, [(6, vI x1), (0, .retAddr 0), (1, .ref 0), (2, .ref 63), (3, .ref 73), (4, .ref 74), (5, vI i)], [vI x2], _, h2, _, _) _
  refine eW_istore 345 rfl rfl [(7, vI x2), (6, vI x1), (0, .retAddr 0), (1, .ref 0), (2, .ref 63), (3, .ref 73), (4, .ref 74), (5, vI i)] rfl rfl ?_
  refine eW_aload_n 346 rfl rfl rfl ?_
  refine eW_callM 349 [.ref 63] [] (eS_callV rfl rfl rfl (Nat.ble_eq_true_of_le (by omega)) hm2.1 rfl) rfl rfl rfl (by simp only [vI, eClL, eClV, List.all_cons, List.all_nil, Bool.and_true, Bool.and_eq_true, Bool.true_and, Nat.ble_eq]; first | done | omega) (eRet_M (m_thrown (d := d) hm2 hN1)) ?_
  intro v3 n3 h3 a3 b3 f3
  obtain ⟨rfl, rfl, rfl, rfl, rfl⟩ := f3
  show eWp _ _ _ (349, [(7, vI x2), (6, vI x1), (0, .retAddr 0), (1, .ref 0), (2, .ref 63), (3, .ref 73), (4, .ref 74), (5, vI i)], [vI (s2 7)], _, _, _, _) _
  refine eW_iload 351 rfl rfl rfl ?_
  cases r with
  | inr E =>
    have hE := hr E rfl
    have hx1 : x1 = lCd l E := hx
    have hx3 : s2 7 = lCd l E := hx2
    refine eW_icmp_eqE rfl (hx3.trans hx1.symm) ?_
    refine eW_iload 358 rfl rfl rfl ?_
    refine eW_if_ne 361 rfl rfl (by unfold i32; omega) (fun _ => ?_) (fun c9 => absurd (show x1 ≠ 0 by omega) c9)
    refine eW_goto rfl ?_
    refine eW_reU [(0, .retAddr 0), (1, .ref 0), (2, .ref 63), (3, .ref 73), (4, .ref 74), (5, vI i)] rfl rfl (List.forall_mem_cons.mpr ⟨rfl, List.forall_mem_cons.mpr ⟨rfl, List.forall_mem_cons.mpr ⟨rfl, List.forall_mem_cons.mpr ⟨rfl, List.forall_mem_cons.mpr ⟨rfl, List.forall_mem_cons.mpr ⟨rfl, fun _ h => absurd h List.not_mem_nil⟩⟩⟩⟩⟩⟩) (List.forall_mem_cons.mpr ⟨Or.inr (Or.inl ⟨_, rfl⟩), List.forall_mem_cons.mpr ⟨Or.inr (Or.inl ⟨_, rfl⟩), List.forall_mem_cons.mpr ⟨Or.inl rfl, List.forall_mem_cons.mpr ⟨Or.inl rfl, List.forall_mem_cons.mpr ⟨Or.inl rfl, List.forall_mem_cons.mpr ⟨Or.inl rfl, List.forall_mem_cons.mpr ⟨Or.inl rfl, List.forall_mem_cons.mpr ⟨Or.inl rfl, fun _ h => absurd h List.not_mem_nil⟩⟩⟩⟩⟩⟩⟩⟩) ?_
    exact kk n1 a1 b1 _ hFI
  | inl a =>
    obtain ⟨hx1, F9, e9, e90⟩ := hx
    obtain ⟨hx3, hxa⟩ := hx2
    subst hx1; subst hxa
    refine eW_icmp_eqE rfl hx3 ?_
    refine eW_iload 358 rfl rfl rfl ?_
    refine eW_if_ne 361 rfl rfl (by unfold i32; omega) (fun c9 => absurd rfl c9) (fun _ => ?_)
    refine eW_aload_n 362 rfl rfl rfl ?_
    refine eW_iconst 363 rfl rfl ?_
    refine eW_laloadx 364 rfl rfl (Int32.ofInt x2).toInt64 (Nat.ble_eq_true_of_le (by omega)) (ew.trans e9) (by omega) (by omega) (by unfold i32; omega) e90 ?_
    refine eW_iload 366 rfl rfl rfl ?_
    refine eW_i2lx 367 rfl rfl ?_
    refine eW_lcmpE 368 rfl rfl rfl ?_
    refine eW_if_eq 371 rfl rfl (by unfold i32; omega) (fun _ => ?_) (fun c9 => absurd rfl c9)
    refine eW_goto rfl ?_
    refine eW_reU [(0, .retAddr 0), (1, .ref 0), (2, .ref 63), (3, .ref 73), (4, .ref 74), (5, vI i)] rfl rfl (List.forall_mem_cons.mpr ⟨rfl, List.forall_mem_cons.mpr ⟨rfl, List.forall_mem_cons.mpr ⟨rfl, List.forall_mem_cons.mpr ⟨rfl, List.forall_mem_cons.mpr ⟨rfl, List.forall_mem_cons.mpr ⟨rfl, fun _ h => absurd h List.not_mem_nil⟩⟩⟩⟩⟩⟩) (List.forall_mem_cons.mpr ⟨Or.inr (Or.inl ⟨_, rfl⟩), List.forall_mem_cons.mpr ⟨Or.inr (Or.inl ⟨_, rfl⟩), List.forall_mem_cons.mpr ⟨Or.inl rfl, List.forall_mem_cons.mpr ⟨Or.inl rfl, List.forall_mem_cons.mpr ⟨Or.inl rfl, List.forall_mem_cons.mpr ⟨Or.inl rfl, List.forall_mem_cons.mpr ⟨Or.inl rfl, List.forall_mem_cons.mpr ⟨Or.inl rfl, fun _ h => absurd h List.not_mem_nil⟩⟩⟩⟩⟩⟩⟩⟩) ?_
    exact kk n1 a1 b1 _ hFI
set_option maxRecDepth 20000 in
theorem lc_3 {ox : Nat → Option (Nat × Nat × (Nat → Int32))} {d N n k z : Nat} {h : eHp} {xs : Nat → Int} {i : Int} {P : eR → Prop} (hox : ox 0 = some (0, n, eIA xs)) (hxs : ∀ j, i32 (xs j)) (hi : 0 ≤ i ∧ i + 4 ≤ n) (hn : n ≤ 2048) (hN : 75 ≤ N) {r : Int ⊕ String} {l : List String} {FF : Nat → eHp → Nat → Nat → Prop} (hr : ∀ E, r = .inr E → 1 ≤ lCd l E ∧ lCd l E ≤ 3) (hL : eSp (d + 1) eM_L_pitOf [.ref 0, vI (xs (i + 1).toNat), vI (xs (i + 2).toNat), .ref 73] N h (lR 73 lRow73 lH73 r l FF)) {FI : Nat → Nat → Nat → eHp → Prop} (hM : ∀ N1 g1 h1 k1 z1, FF N1 g1 k1 z1 → (∀ i, i ≠ 73 → h1 i = g1 i) → lRow73 (h1 73) → 75 ≤ N1 ∧ (∃ fs, h1 63 = .inr (11, fs)) ∧ eSp (d + 1) eM_X7_pitOf [.ref 63, vI (xs (i + 1).toNat), vI (xs (i + 2).toNat)] N1 h1 (lM r l N1 h1 (FI N1 k1 z1))) (kk : ∀ N1 k1 z1 h1, FI N1 k1 z1 h1 → eWp ox (eEv (d + 1)) eM_L_law (1930, [(0, .retAddr 0), (1, .ref 0), (2, .ref 63), (3, .ref 73), (4, .ref 74), (5, vI i)], [], N1, h1, k + k1, z + z1) P) : eWp ox (eEv (d + 1)) eM_L_law (376, [(0, .retAddr 0), (1, .ref 0), (2, .ref 63), (3, .ref 73), (4, .ref 74), (5, vI i)], [], N, h, k, z) P := by
  refine eW_aload_n 377 rfl rfl rfl ?_
  refine eW_aload_n_out 378 rfl rfl rfl ?_
  refine eW_iload 380 rfl rfl rfl ?_
  refine eW_iconst 381 rfl rfl ?_
  refine eW_iadd 382 rfl rfl ?_
  refine eW_iaload_o 383 rfl rfl (xs (i + 1).toNat) hox (by omega) (by omega) (by unfold i32; omega) rfl ?_
  refine eW_aload_n_out 384 rfl rfl rfl ?_
  refine eW_iload 386 rfl rfl rfl ?_
  refine eW_iconst 387 rfl rfl ?_
  refine eW_iadd 388 rfl rfl ?_
  refine eW_iaload_o 389 rfl rfl (xs (i + 2).toNat) hox (by omega) (by omega) (by unfold i32; omega) rfl ?_
  refine eW_aload_n 390 rfl rfl rfl ?_
  refine eW_callM 393 [.ref 0, vI (xs (i + 1).toNat), vI (xs (i + 2).toNat), .ref 73] [] (eS_callS rfl rfl (Or.inl rfl) rfl) rfl rfl rfl (by simp only [vI, eClL, eClV, List.all_cons, List.all_nil, Bool.and_true, Bool.and_eq_true, Bool.true_and, Nat.ble_eq]; first | done | omega) (lR_M hL) ?_
  intro v1 n1 h1 a1 b1 f1
  obtain ⟨x1, g1, rfl, hF, ho, hw, hx⟩ := f1
  show eWp _ _ _ (393, [(0, .retAddr 0), (1, .ref 0), (2, .ref 63), (3, .ref 73), (4, .ref 74), (5, vI i)], [vI x1], _, h1, _, _) _
  refine eW_istore 395 rfl rfl [(6, vI x1), (0, .retAddr 0), (1, .ref 0), (2, .ref 63), (3, .ref 73), (4, .ref 74), (5, vI i)] rfl rfl ?_
  obtain ⟨hN1, ⟨fs1, e63⟩, hm⟩ := hM _ _ _ _ _ hF ho hw
  refine eW_aload_n 396 rfl rfl rfl ?_
  refine eW_aload_n_out 397 rfl rfl rfl ?_
  refine eW_iload 399 rfl rfl rfl ?_
  refine eW_iconst 400 rfl rfl ?_
  refine eW_iadd 401 rfl rfl ?_
  refine eW_iaload_o 402 rfl rfl (xs (i + 1).toNat) hox (by omega) (by omega) (by unfold i32; omega) rfl ?_
  refine eW_aload_n_out 403 rfl rfl rfl ?_
  refine eW_iload 405 rfl rfl rfl ?_
  refine eW_iconst 406 rfl rfl ?_
  refine eW_iadd 407 rfl rfl ?_
  refine eW_iaload_o 408 rfl rfl (xs (i + 2).toNat) hox (by omega) (by omega) (by unfold i32; omega) rfl ?_
  refine eW_callM 411 [.ref 63, vI (xs (i + 1).toNat), vI (xs (i + 2).toNat)] [] (eS_callV rfl rfl rfl (Nat.ble_eq_true_of_le (by omega)) e63 rfl) rfl rfl rfl (by simp only [vI, eClL, eClV, List.all_cons, List.all_nil, Bool.and_true, Bool.and_eq_true, Bool.true_and, Nat.ble_eq]; first | done | omega) (lM_M hm) ?_
  intro v2 n2 h2 a2 b2 f2
  obtain ⟨x2, s2, A2, rfl, rfl, rfl, rfl, hm2, ew, hx2, hFI⟩ := f2
  show eWp _ _ _ (411, [(6, vI x1), (0, .retAddr 0), (1, .ref 0), (2, .ref 63), (3, .ref 73), (4, .ref 74), (5, vI i)], [vI x2], _, h2, _, _) _
  refine eW_istore 413 rfl rfl [(7, vI x2), (6, vI x1), (0, .retAddr 0), (1, .ref 0), (2, .ref 63), (3, .ref 73), (4, .ref 74), (5, vI i)] rfl rfl ?_
  refine eW_aload_n 414 rfl rfl rfl ?_
  refine eW_callM 417 [.ref 63] [] (eS_callV rfl rfl rfl (Nat.ble_eq_true_of_le (by omega)) hm2.1 rfl) rfl rfl rfl (by simp only [vI, eClL, eClV, List.all_cons, List.all_nil, Bool.and_true, Bool.and_eq_true, Bool.true_and, Nat.ble_eq]; first | done | omega) (eRet_M (m_thrown (d := d) hm2 hN1)) ?_
  intro v3 n3 h3 a3 b3 f3
  obtain ⟨rfl, rfl, rfl, rfl, rfl⟩ := f3
  show eWp _ _ _ (417, [(7, vI x2), (6, vI x1), (0, .retAddr 0), (1, .ref 0), (2, .ref 63), (3, .ref 73), (4, .ref 74), (5, vI i)], [vI (s2 7)], _, _, _, _) _
  refine eW_iload 419 rfl rfl rfl ?_
  cases r with
  | inr E =>
    have hE := hr E rfl
    have hx1 : x1 = lCd l E := hx
    have hx3 : s2 7 = lCd l E := hx2
    refine eW_icmp_eqE rfl (hx3.trans hx1.symm) ?_
    refine eW_iload 426 rfl rfl rfl ?_
    refine eW_if_ne 429 rfl rfl (by unfold i32; omega) (fun _ => ?_) (fun c9 => absurd (show x1 ≠ 0 by omega) c9)
    refine eW_goto rfl ?_
    refine eW_reU [(0, .retAddr 0), (1, .ref 0), (2, .ref 63), (3, .ref 73), (4, .ref 74), (5, vI i)] rfl rfl (List.forall_mem_cons.mpr ⟨rfl, List.forall_mem_cons.mpr ⟨rfl, List.forall_mem_cons.mpr ⟨rfl, List.forall_mem_cons.mpr ⟨rfl, List.forall_mem_cons.mpr ⟨rfl, List.forall_mem_cons.mpr ⟨rfl, fun _ h => absurd h List.not_mem_nil⟩⟩⟩⟩⟩⟩) (List.forall_mem_cons.mpr ⟨Or.inr (Or.inl ⟨_, rfl⟩), List.forall_mem_cons.mpr ⟨Or.inr (Or.inl ⟨_, rfl⟩), List.forall_mem_cons.mpr ⟨Or.inl rfl, List.forall_mem_cons.mpr ⟨Or.inl rfl, List.forall_mem_cons.mpr ⟨Or.inl rfl, List.forall_mem_cons.mpr ⟨Or.inl rfl, List.forall_mem_cons.mpr ⟨Or.inl rfl, List.forall_mem_cons.mpr ⟨Or.inl rfl, fun _ h => absurd h List.not_mem_nil⟩⟩⟩⟩⟩⟩⟩⟩) ?_
    exact kk n1 a1 b1 _ hFI
  | inl a =>
    obtain ⟨hx1, F9, e9, e90⟩ := hx
    obtain ⟨hx3, hxa⟩ := hx2
    subst hx1; subst hxa
    refine eW_icmp_eqE rfl hx3 ?_
    refine eW_iload 426 rfl rfl rfl ?_
    refine eW_if_ne 429 rfl rfl (by unfold i32; omega) (fun c9 => absurd rfl c9) (fun _ => ?_)
    refine eW_aload_n 430 rfl rfl rfl ?_
    refine eW_iconst 431 rfl rfl ?_
    refine eW_laloadx 432 rfl rfl (Int32.ofInt x2).toInt64 (Nat.ble_eq_true_of_le (by omega)) (ew.trans e9) (by omega) (by omega) (by unfold i32; omega) e90 ?_
    refine eW_iload 434 rfl rfl rfl ?_
    refine eW_i2lx 435 rfl rfl ?_
    refine eW_lcmpE 436 rfl rfl rfl ?_
    refine eW_if_eq 439 rfl rfl (by unfold i32; omega) (fun _ => ?_) (fun c9 => absurd rfl c9)
    refine eW_goto rfl ?_
    refine eW_reU [(0, .retAddr 0), (1, .ref 0), (2, .ref 63), (3, .ref 73), (4, .ref 74), (5, vI i)] rfl rfl (List.forall_mem_cons.mpr ⟨rfl, List.forall_mem_cons.mpr ⟨rfl, List.forall_mem_cons.mpr ⟨rfl, List.forall_mem_cons.mpr ⟨rfl, List.forall_mem_cons.mpr ⟨rfl, List.forall_mem_cons.mpr ⟨rfl, fun _ h => absurd h List.not_mem_nil⟩⟩⟩⟩⟩⟩) (List.forall_mem_cons.mpr ⟨Or.inr (Or.inl ⟨_, rfl⟩), List.forall_mem_cons.mpr ⟨Or.inr (Or.inl ⟨_, rfl⟩), List.forall_mem_cons.mpr ⟨Or.inl rfl, List.forall_mem_cons.mpr ⟨Or.inl rfl, List.forall_mem_cons.mpr ⟨Or.inl rfl, List.forall_mem_cons.mpr ⟨Or.inl rfl, List.forall_mem_cons.mpr ⟨Or.inl rfl, List.forall_mem_cons.mpr ⟨Or.inl rfl, fun _ h => absurd h List.not_mem_nil⟩⟩⟩⟩⟩⟩⟩⟩) ?_
    exact kk n1 a1 b1 _ hFI
set_option maxRecDepth 20000 in
theorem lc_4 {ox : Nat → Option (Nat × Nat × (Nat → Int32))} {d N n k z : Nat} {h : eHp} {xs : Nat → Int} {i : Int} {P : eR → Prop} (hox : ox 0 = some (0, n, eIA xs)) (hxs : ∀ j, i32 (xs j)) (hi : 0 ≤ i ∧ i + 4 ≤ n) (hn : n ≤ 2048) (hN : 75 ≤ N) {r : Int ⊕ String} {l : List String} {FF : Nat → eHp → Nat → Nat → Prop} (hr : ∀ E, r = .inr E → 1 ≤ lCd l E ∧ lCd l E ≤ 3) (hL : eSp (d + 1) eM_L_ranked [.ref 0, vI (xs (i + 1).toNat), .ref 73] N h (lR 73 lRow73 lH73 r l FF)) {FI : Nat → Nat → Nat → eHp → Prop} (hM : ∀ N1 g1 h1 k1 z1, FF N1 g1 k1 z1 → (∀ i, i ≠ 73 → h1 i = g1 i) → lRow73 (h1 73) → 75 ≤ N1 ∧ (∃ fs, h1 63 = .inr (11, fs)) ∧ eSp (d + 1) eM_X7_ranked [.ref 63, vI (xs (i + 1).toNat)] N1 h1 (lM r l N1 h1 (FI N1 k1 z1))) (kk : ∀ N1 k1 z1 h1, FI N1 k1 z1 h1 → eWp ox (eEv (d + 1)) eM_L_law (1930, [(0, .retAddr 0), (1, .ref 0), (2, .ref 63), (3, .ref 73), (4, .ref 74), (5, vI i)], [], N1, h1, k + k1, z + z1) P) : eWp ox (eEv (d + 1)) eM_L_law (444, [(0, .retAddr 0), (1, .ref 0), (2, .ref 63), (3, .ref 73), (4, .ref 74), (5, vI i)], [], N, h, k, z) P := by
  refine eW_aload_n 445 rfl rfl rfl ?_
  refine eW_aload_n_out 446 rfl rfl rfl ?_
  refine eW_iload 448 rfl rfl rfl ?_
  refine eW_iconst 449 rfl rfl ?_
  refine eW_iadd 450 rfl rfl ?_
  refine eW_iaload_o 451 rfl rfl (xs (i + 1).toNat) hox (by omega) (by omega) (by unfold i32; omega) rfl ?_
  refine eW_aload_n 452 rfl rfl rfl ?_
  refine eW_callM 455 [.ref 0, vI (xs (i + 1).toNat), .ref 73] [] (eS_callS rfl rfl (Or.inl rfl) rfl) rfl rfl rfl (by simp only [vI, eClL, eClV, List.all_cons, List.all_nil, Bool.and_true, Bool.and_eq_true, Bool.true_and, Nat.ble_eq]; first | done | omega) (lR_M hL) ?_
  intro v1 n1 h1 a1 b1 f1
  obtain ⟨x1, g1, rfl, hF, ho, hw, hx⟩ := f1
  show eWp _ _ _ (455, [(0, .retAddr 0), (1, .ref 0), (2, .ref 63), (3, .ref 73), (4, .ref 74), (5, vI i)], [vI x1], _, h1, _, _) _
  refine eW_istore 457 rfl rfl [(6, vI x1), (0, .retAddr 0), (1, .ref 0), (2, .ref 63), (3, .ref 73), (4, .ref 74), (5, vI i)] rfl rfl ?_
  obtain ⟨hN1, ⟨fs1, e63⟩, hm⟩ := hM _ _ _ _ _ hF ho hw
  refine eW_aload_n 458 rfl rfl rfl ?_
  refine eW_aload_n_out 459 rfl rfl rfl ?_
  refine eW_iload 461 rfl rfl rfl ?_
  refine eW_iconst 462 rfl rfl ?_
  refine eW_iadd 463 rfl rfl ?_
  refine eW_iaload_o 464 rfl rfl (xs (i + 1).toNat) hox (by omega) (by omega) (by unfold i32; omega) rfl ?_
  refine eW_callM 467 [.ref 63, vI (xs (i + 1).toNat)] [] (eS_callV rfl rfl rfl (Nat.ble_eq_true_of_le (by omega)) e63 rfl) rfl rfl rfl (by simp only [vI, eClL, eClV, List.all_cons, List.all_nil, Bool.and_true, Bool.and_eq_true, Bool.true_and, Nat.ble_eq]; first | done | omega) (lM_M hm) ?_
  intro v2 n2 h2 a2 b2 f2
  obtain ⟨x2, s2, A2, rfl, rfl, rfl, rfl, hm2, ew, hx2, hFI⟩ := f2
  show eWp _ _ _ (467, [(6, vI x1), (0, .retAddr 0), (1, .ref 0), (2, .ref 63), (3, .ref 73), (4, .ref 74), (5, vI i)], [vI x2], _, h2, _, _) _
  refine eW_istore 469 rfl rfl [(7, vI x2), (6, vI x1), (0, .retAddr 0), (1, .ref 0), (2, .ref 63), (3, .ref 73), (4, .ref 74), (5, vI i)] rfl rfl ?_
  refine eW_aload_n 470 rfl rfl rfl ?_
  refine eW_callM 473 [.ref 63] [] (eS_callV rfl rfl rfl (Nat.ble_eq_true_of_le (by omega)) hm2.1 rfl) rfl rfl rfl (by simp only [vI, eClL, eClV, List.all_cons, List.all_nil, Bool.and_true, Bool.and_eq_true, Bool.true_and, Nat.ble_eq]; first | done | omega) (eRet_M (m_thrown (d := d) hm2 hN1)) ?_
  intro v3 n3 h3 a3 b3 f3
  obtain ⟨rfl, rfl, rfl, rfl, rfl⟩ := f3
  show eWp _ _ _ (473, [(7, vI x2), (6, vI x1), (0, .retAddr 0), (1, .ref 0), (2, .ref 63), (3, .ref 73), (4, .ref 74), (5, vI i)], [vI (s2 7)], _, _, _, _) _
  refine eW_iload 475 rfl rfl rfl ?_
  cases r with
  | inr E =>
    have hE := hr E rfl
    have hx1 : x1 = lCd l E := hx
    have hx3 : s2 7 = lCd l E := hx2
    refine eW_icmp_eqE rfl (hx3.trans hx1.symm) ?_
    refine eW_iload 482 rfl rfl rfl ?_
    refine eW_if_ne 485 rfl rfl (by unfold i32; omega) (fun _ => ?_) (fun c9 => absurd (show x1 ≠ 0 by omega) c9)
    refine eW_goto rfl ?_
    refine eW_reU [(0, .retAddr 0), (1, .ref 0), (2, .ref 63), (3, .ref 73), (4, .ref 74), (5, vI i)] rfl rfl (List.forall_mem_cons.mpr ⟨rfl, List.forall_mem_cons.mpr ⟨rfl, List.forall_mem_cons.mpr ⟨rfl, List.forall_mem_cons.mpr ⟨rfl, List.forall_mem_cons.mpr ⟨rfl, List.forall_mem_cons.mpr ⟨rfl, fun _ h => absurd h List.not_mem_nil⟩⟩⟩⟩⟩⟩) (List.forall_mem_cons.mpr ⟨Or.inr (Or.inl ⟨_, rfl⟩), List.forall_mem_cons.mpr ⟨Or.inr (Or.inl ⟨_, rfl⟩), List.forall_mem_cons.mpr ⟨Or.inl rfl, List.forall_mem_cons.mpr ⟨Or.inl rfl, List.forall_mem_cons.mpr ⟨Or.inl rfl, List.forall_mem_cons.mpr ⟨Or.inl rfl, List.forall_mem_cons.mpr ⟨Or.inl rfl, List.forall_mem_cons.mpr ⟨Or.inl rfl, fun _ h => absurd h List.not_mem_nil⟩⟩⟩⟩⟩⟩⟩⟩) ?_
    exact kk n1 a1 b1 _ hFI
  | inl a =>
    obtain ⟨hx1, F9, e9, e90⟩ := hx
    obtain ⟨hx3, hxa⟩ := hx2
    subst hx1; subst hxa
    refine eW_icmp_eqE rfl hx3 ?_
    refine eW_iload 482 rfl rfl rfl ?_
    refine eW_if_ne 485 rfl rfl (by unfold i32; omega) (fun c9 => absurd rfl c9) (fun _ => ?_)
    refine eW_aload_n 486 rfl rfl rfl ?_
    refine eW_iconst 487 rfl rfl ?_
    refine eW_laloadx 488 rfl rfl (Int32.ofInt x2).toInt64 (Nat.ble_eq_true_of_le (by omega)) (ew.trans e9) (by omega) (by omega) (by unfold i32; omega) e90 ?_
    refine eW_iload 490 rfl rfl rfl ?_
    refine eW_i2lx 491 rfl rfl ?_
    refine eW_lcmpE 492 rfl rfl rfl ?_
    refine eW_if_eq 495 rfl rfl (by unfold i32; omega) (fun _ => ?_) (fun c9 => absurd rfl c9)
    refine eW_goto rfl ?_
    refine eW_reU [(0, .retAddr 0), (1, .ref 0), (2, .ref 63), (3, .ref 73), (4, .ref 74), (5, vI i)] rfl rfl (List.forall_mem_cons.mpr ⟨rfl, List.forall_mem_cons.mpr ⟨rfl, List.forall_mem_cons.mpr ⟨rfl, List.forall_mem_cons.mpr ⟨rfl, List.forall_mem_cons.mpr ⟨rfl, List.forall_mem_cons.mpr ⟨rfl, fun _ h => absurd h List.not_mem_nil⟩⟩⟩⟩⟩⟩) (List.forall_mem_cons.mpr ⟨Or.inr (Or.inl ⟨_, rfl⟩), List.forall_mem_cons.mpr ⟨Or.inr (Or.inl ⟨_, rfl⟩), List.forall_mem_cons.mpr ⟨Or.inl rfl, List.forall_mem_cons.mpr ⟨Or.inl rfl, List.forall_mem_cons.mpr ⟨Or.inl rfl, List.forall_mem_cons.mpr ⟨Or.inl rfl, List.forall_mem_cons.mpr ⟨Or.inl rfl, List.forall_mem_cons.mpr ⟨Or.inl rfl, fun _ h => absurd h List.not_mem_nil⟩⟩⟩⟩⟩⟩⟩⟩) ?_
    exact kk n1 a1 b1 _ hFI
set_option maxRecDepth 20000 in
theorem lc_5 {ox : Nat → Option (Nat × Nat × (Nat → Int32))} {d N n k z : Nat} {h : eHp} {xs : Nat → Int} {i : Int} {P : eR → Prop} (hox : ox 0 = some (0, n, eIA xs)) (hxs : ∀ j, i32 (xs j)) (hi : 0 ≤ i ∧ i + 4 ≤ n) (hn : n ≤ 2048) (hN : 75 ≤ N) {r : Int ⊕ String} {l : List String} {FF : Nat → eHp → Nat → Nat → Prop} (hr : ∀ E, r = .inr E → 1 ≤ lCd l E ∧ lCd l E ≤ 3) (hL : eSp (d + 1) eM_L_scoop [.ref 0, vI (xs (i + 1).toNat), vI (xs (i + 2).toNat), vI (xs (i + 3).toNat), .ref 73] N h (lR 73 lRow73 lH73 r l FF)) {FI : Nat → Nat → Nat → eHp → Prop} (hM : ∀ N1 g1 h1 k1 z1, FF N1 g1 k1 z1 → (∀ i, i ≠ 73 → h1 i = g1 i) → lRow73 (h1 73) → 75 ≤ N1 ∧ (∃ fs, h1 63 = .inr (11, fs)) ∧ eSp (d + 1) eM_X7_scoop [.ref 63, vI (xs (i + 1).toNat), vI (xs (i + 2).toNat), vI (xs (i + 3).toNat)] N1 h1 (lM r l N1 h1 (FI N1 k1 z1))) (kk : ∀ N1 k1 z1 h1, FI N1 k1 z1 h1 → eWp ox (eEv (d + 1)) eM_L_law (1930, [(0, .retAddr 0), (1, .ref 0), (2, .ref 63), (3, .ref 73), (4, .ref 74), (5, vI i)], [], N1, h1, k + k1, z + z1) P) : eWp ox (eEv (d + 1)) eM_L_law (500, [(0, .retAddr 0), (1, .ref 0), (2, .ref 63), (3, .ref 73), (4, .ref 74), (5, vI i)], [], N, h, k, z) P := by
  refine eW_aload_n 501 rfl rfl rfl ?_
  refine eW_aload_n_out 502 rfl rfl rfl ?_
  refine eW_iload 504 rfl rfl rfl ?_
  refine eW_iconst 505 rfl rfl ?_
  refine eW_iadd 506 rfl rfl ?_
  refine eW_iaload_o 507 rfl rfl (xs (i + 1).toNat) hox (by omega) (by omega) (by unfold i32; omega) rfl ?_
  refine eW_aload_n_out 508 rfl rfl rfl ?_
  refine eW_iload 510 rfl rfl rfl ?_
  refine eW_iconst 511 rfl rfl ?_
  refine eW_iadd 512 rfl rfl ?_
  refine eW_iaload_o 513 rfl rfl (xs (i + 2).toNat) hox (by omega) (by omega) (by unfold i32; omega) rfl ?_
  refine eW_aload_n_out 514 rfl rfl rfl ?_
  refine eW_iload 516 rfl rfl rfl ?_
  refine eW_iconst 517 rfl rfl ?_
  refine eW_iadd 518 rfl rfl ?_
  refine eW_iaload_o 519 rfl rfl (xs (i + 3).toNat) hox (by omega) (by omega) (by unfold i32; omega) rfl ?_
  refine eW_aload_n 520 rfl rfl rfl ?_
  refine eW_callM 523 [.ref 0, vI (xs (i + 1).toNat), vI (xs (i + 2).toNat), vI (xs (i + 3).toNat), .ref 73] [] (eS_callS rfl rfl (Or.inl rfl) rfl) rfl rfl rfl (by simp only [vI, eClL, eClV, List.all_cons, List.all_nil, Bool.and_true, Bool.and_eq_true, Bool.true_and, Nat.ble_eq]; first | done | omega) (lR_M hL) ?_
  intro v1 n1 h1 a1 b1 f1
  obtain ⟨x1, g1, rfl, hF, ho, hw, hx⟩ := f1
  show eWp _ _ _ (523, [(0, .retAddr 0), (1, .ref 0), (2, .ref 63), (3, .ref 73), (4, .ref 74), (5, vI i)], [vI x1], _, h1, _, _) _
  refine eW_istore 525 rfl rfl [(6, vI x1), (0, .retAddr 0), (1, .ref 0), (2, .ref 63), (3, .ref 73), (4, .ref 74), (5, vI i)] rfl rfl ?_
  obtain ⟨hN1, ⟨fs1, e63⟩, hm⟩ := hM _ _ _ _ _ hF ho hw
  refine eW_aload_n 526 rfl rfl rfl ?_
  refine eW_aload_n_out 527 rfl rfl rfl ?_
  refine eW_iload 529 rfl rfl rfl ?_
  refine eW_iconst 530 rfl rfl ?_
  refine eW_iadd 531 rfl rfl ?_
  refine eW_iaload_o 532 rfl rfl (xs (i + 1).toNat) hox (by omega) (by omega) (by unfold i32; omega) rfl ?_
  refine eW_aload_n_out 533 rfl rfl rfl ?_
  refine eW_iload 535 rfl rfl rfl ?_
  refine eW_iconst 536 rfl rfl ?_
  refine eW_iadd 537 rfl rfl ?_
  refine eW_iaload_o 538 rfl rfl (xs (i + 2).toNat) hox (by omega) (by omega) (by unfold i32; omega) rfl ?_
  refine eW_aload_n_out 539 rfl rfl rfl ?_
  refine eW_iload 541 rfl rfl rfl ?_
  refine eW_iconst 542 rfl rfl ?_
  refine eW_iadd 543 rfl rfl ?_
  refine eW_iaload_o 544 rfl rfl (xs (i + 3).toNat) hox (by omega) (by omega) (by unfold i32; omega) rfl ?_
  refine eW_callM 547 [.ref 63, vI (xs (i + 1).toNat), vI (xs (i + 2).toNat), vI (xs (i + 3).toNat)] [] (eS_callV rfl rfl rfl (Nat.ble_eq_true_of_le (by omega)) e63 rfl) rfl rfl rfl (by simp only [vI, eClL, eClV, List.all_cons, List.all_nil, Bool.and_true, Bool.and_eq_true, Bool.true_and, Nat.ble_eq]; first | done | omega) (lM_M hm) ?_
  intro v2 n2 h2 a2 b2 f2
  obtain ⟨x2, s2, A2, rfl, rfl, rfl, rfl, hm2, ew, hx2, hFI⟩ := f2
  show eWp _ _ _ (547, [(6, vI x1), (0, .retAddr 0), (1, .ref 0), (2, .ref 63), (3, .ref 73), (4, .ref 74), (5, vI i)], [vI x2], _, h2, _, _) _
  refine eW_istore 549 rfl rfl [(7, vI x2), (6, vI x1), (0, .retAddr 0), (1, .ref 0), (2, .ref 63), (3, .ref 73), (4, .ref 74), (5, vI i)] rfl rfl ?_
  refine eW_aload_n 550 rfl rfl rfl ?_
  refine eW_callM 553 [.ref 63] [] (eS_callV rfl rfl rfl (Nat.ble_eq_true_of_le (by omega)) hm2.1 rfl) rfl rfl rfl (by simp only [vI, eClL, eClV, List.all_cons, List.all_nil, Bool.and_true, Bool.and_eq_true, Bool.true_and, Nat.ble_eq]; first | done | omega) (eRet_M (m_thrown (d := d) hm2 hN1)) ?_
  intro v3 n3 h3 a3 b3 f3
  obtain ⟨rfl, rfl, rfl, rfl, rfl⟩ := f3
  show eWp _ _ _ (553, [(7, vI x2), (6, vI x1), (0, .retAddr 0), (1, .ref 0), (2, .ref 63), (3, .ref 73), (4, .ref 74), (5, vI i)], [vI (s2 7)], _, _, _, _) _
  refine eW_iload 555 rfl rfl rfl ?_
  cases r with
  | inr E =>
    have hE := hr E rfl
    have hx1 : x1 = lCd l E := hx
    have hx3 : s2 7 = lCd l E := hx2
    refine eW_icmp_eqE rfl (hx3.trans hx1.symm) ?_
    refine eW_iload 562 rfl rfl rfl ?_
    refine eW_if_ne 565 rfl rfl (by unfold i32; omega) (fun _ => ?_) (fun c9 => absurd (show x1 ≠ 0 by omega) c9)
    refine eW_goto rfl ?_
    refine eW_reU [(0, .retAddr 0), (1, .ref 0), (2, .ref 63), (3, .ref 73), (4, .ref 74), (5, vI i)] rfl rfl (List.forall_mem_cons.mpr ⟨rfl, List.forall_mem_cons.mpr ⟨rfl, List.forall_mem_cons.mpr ⟨rfl, List.forall_mem_cons.mpr ⟨rfl, List.forall_mem_cons.mpr ⟨rfl, List.forall_mem_cons.mpr ⟨rfl, fun _ h => absurd h List.not_mem_nil⟩⟩⟩⟩⟩⟩) (List.forall_mem_cons.mpr ⟨Or.inr (Or.inl ⟨_, rfl⟩), List.forall_mem_cons.mpr ⟨Or.inr (Or.inl ⟨_, rfl⟩), List.forall_mem_cons.mpr ⟨Or.inl rfl, List.forall_mem_cons.mpr ⟨Or.inl rfl, List.forall_mem_cons.mpr ⟨Or.inl rfl, List.forall_mem_cons.mpr ⟨Or.inl rfl, List.forall_mem_cons.mpr ⟨Or.inl rfl, List.forall_mem_cons.mpr ⟨Or.inl rfl, fun _ h => absurd h List.not_mem_nil⟩⟩⟩⟩⟩⟩⟩⟩) ?_
    exact kk n1 a1 b1 _ hFI
  | inl a =>
    obtain ⟨hx1, F9, e9, e90⟩ := hx
    obtain ⟨hx3, hxa⟩ := hx2
    subst hx1; subst hxa
    refine eW_icmp_eqE rfl hx3 ?_
    refine eW_iload 562 rfl rfl rfl ?_
    refine eW_if_ne 565 rfl rfl (by unfold i32; omega) (fun c9 => absurd rfl c9) (fun _ => ?_)
    refine eW_aload_n 566 rfl rfl rfl ?_
    refine eW_iconst 567 rfl rfl ?_
    refine eW_laloadx 568 rfl rfl (Int32.ofInt x2).toInt64 (Nat.ble_eq_true_of_le (by omega)) (ew.trans e9) (by omega) (by omega) (by unfold i32; omega) e90 ?_
    refine eW_iload 570 rfl rfl rfl ?_
    refine eW_i2lx 571 rfl rfl ?_
    refine eW_lcmpE 572 rfl rfl rfl ?_
    refine eW_if_eq 575 rfl rfl (by unfold i32; omega) (fun _ => ?_) (fun c9 => absurd rfl c9)
    refine eW_goto rfl ?_
    refine eW_reU [(0, .retAddr 0), (1, .ref 0), (2, .ref 63), (3, .ref 73), (4, .ref 74), (5, vI i)] rfl rfl (List.forall_mem_cons.mpr ⟨rfl, List.forall_mem_cons.mpr ⟨rfl, List.forall_mem_cons.mpr ⟨rfl, List.forall_mem_cons.mpr ⟨rfl, List.forall_mem_cons.mpr ⟨rfl, List.forall_mem_cons.mpr ⟨rfl, fun _ h => absurd h List.not_mem_nil⟩⟩⟩⟩⟩⟩) (List.forall_mem_cons.mpr ⟨Or.inr (Or.inl ⟨_, rfl⟩), List.forall_mem_cons.mpr ⟨Or.inr (Or.inl ⟨_, rfl⟩), List.forall_mem_cons.mpr ⟨Or.inl rfl, List.forall_mem_cons.mpr ⟨Or.inl rfl, List.forall_mem_cons.mpr ⟨Or.inl rfl, List.forall_mem_cons.mpr ⟨Or.inl rfl, List.forall_mem_cons.mpr ⟨Or.inl rfl, List.forall_mem_cons.mpr ⟨Or.inl rfl, fun _ h => absurd h List.not_mem_nil⟩⟩⟩⟩⟩⟩⟩⟩) ?_
    exact kk n1 a1 b1 _ hFI
set_option maxRecDepth 20000 in
theorem lc_6 {ox : Nat → Option (Nat × Nat × (Nat → Int32))} {d N n k z : Nat} {h : eHp} {xs : Nat → Int} {i : Int} {P : eR → Prop} (hox : ox 0 = some (0, n, eIA xs)) (hxs : ∀ j, i32 (xs j)) (hi : 0 ≤ i ∧ i + 4 ≤ n) (hn : n ≤ 2048) (hN : 75 ≤ N) {r : Int ⊕ String} {l : List String} {FF : Nat → eHp → Nat → Nat → Prop} (hr : ∀ E, r = .inr E → 1 ≤ lCd l E ∧ lCd l E ≤ 3) (hL : eSp (d + 1) eM_L_play [.ref 0, .ref 73] N h (lR 73 lRow73 lH73 r l FF)) {FI : Nat → Nat → Nat → eHp → Prop} (hM : ∀ N1 g1 h1 k1 z1, FF N1 g1 k1 z1 → (∀ i, i ≠ 73 → h1 i = g1 i) → lRow73 (h1 73) → 75 ≤ N1 ∧ (∃ fs, h1 63 = .inr (11, fs)) ∧ eSp (d + 1) eM_X7_play [.ref 63] N1 h1 (lM r l N1 h1 (FI N1 k1 z1))) (kk : ∀ N1 k1 z1 h1, FI N1 k1 z1 h1 → eWp ox (eEv (d + 1)) eM_L_law (1930, [(0, .retAddr 0), (1, .ref 0), (2, .ref 63), (3, .ref 73), (4, .ref 74), (5, vI i)], [], N1, h1, k + k1, z + z1) P) : eWp ox (eEv (d + 1)) eM_L_law (580, [(0, .retAddr 0), (1, .ref 0), (2, .ref 63), (3, .ref 73), (4, .ref 74), (5, vI i)], [], N, h, k, z) P := by
  refine eW_aload_n 581 rfl rfl rfl ?_
  refine eW_aload_n 582 rfl rfl rfl ?_
  refine eW_callM 585 [.ref 0, .ref 73] [] (eS_callS rfl rfl (Or.inl rfl) rfl) rfl rfl rfl (by simp only [vI, eClL, eClV, List.all_cons, List.all_nil, Bool.and_true, Bool.and_eq_true, Bool.true_and, Nat.ble_eq]; first | done | omega) (lR_M hL) ?_
  intro v1 n1 h1 a1 b1 f1
  obtain ⟨x1, g1, rfl, hF, ho, hw, hx⟩ := f1
  show eWp _ _ _ (585, [(0, .retAddr 0), (1, .ref 0), (2, .ref 63), (3, .ref 73), (4, .ref 74), (5, vI i)], [vI x1], _, h1, _, _) _
  refine eW_istore 587 rfl rfl [(6, vI x1), (0, .retAddr 0), (1, .ref 0), (2, .ref 63), (3, .ref 73), (4, .ref 74), (5, vI i)] rfl rfl ?_
  obtain ⟨hN1, ⟨fs1, e63⟩, hm⟩ := hM _ _ _ _ _ hF ho hw
  refine eW_aload_n 588 rfl rfl rfl ?_
  refine eW_callM 591 [.ref 63] [] (eS_callV rfl rfl rfl (Nat.ble_eq_true_of_le (by omega)) e63 rfl) rfl rfl rfl (by simp only [vI, eClL, eClV, List.all_cons, List.all_nil, Bool.and_true, Bool.and_eq_true, Bool.true_and, Nat.ble_eq]; first | done | omega) (lM_M hm) ?_
  intro v2 n2 h2 a2 b2 f2
  obtain ⟨x2, s2, A2, rfl, rfl, rfl, rfl, hm2, ew, hx2, hFI⟩ := f2
  show eWp _ _ _ (591, [(6, vI x1), (0, .retAddr 0), (1, .ref 0), (2, .ref 63), (3, .ref 73), (4, .ref 74), (5, vI i)], [vI x2], _, h2, _, _) _
  refine eW_istore 593 rfl rfl [(7, vI x2), (6, vI x1), (0, .retAddr 0), (1, .ref 0), (2, .ref 63), (3, .ref 73), (4, .ref 74), (5, vI i)] rfl rfl ?_
  refine eW_aload_n 594 rfl rfl rfl ?_
  refine eW_callM 597 [.ref 63] [] (eS_callV rfl rfl rfl (Nat.ble_eq_true_of_le (by omega)) hm2.1 rfl) rfl rfl rfl (by simp only [vI, eClL, eClV, List.all_cons, List.all_nil, Bool.and_true, Bool.and_eq_true, Bool.true_and, Nat.ble_eq]; first | done | omega) (eRet_M (m_thrown (d := d) hm2 hN1)) ?_
  intro v3 n3 h3 a3 b3 f3
  obtain ⟨rfl, rfl, rfl, rfl, rfl⟩ := f3
  show eWp _ _ _ (597, [(7, vI x2), (6, vI x1), (0, .retAddr 0), (1, .ref 0), (2, .ref 63), (3, .ref 73), (4, .ref 74), (5, vI i)], [vI (s2 7)], _, _, _, _) _
  refine eW_iload 599 rfl rfl rfl ?_
  cases r with
  | inr E =>
    have hE := hr E rfl
    have hx1 : x1 = lCd l E := hx
    have hx3 : s2 7 = lCd l E := hx2
    refine eW_icmp_eqE rfl (hx3.trans hx1.symm) ?_
    refine eW_iload 606 rfl rfl rfl ?_
    refine eW_if_ne 609 rfl rfl (by unfold i32; omega) (fun _ => ?_) (fun c9 => absurd (show x1 ≠ 0 by omega) c9)
    refine eW_goto rfl ?_
    refine eW_reU [(0, .retAddr 0), (1, .ref 0), (2, .ref 63), (3, .ref 73), (4, .ref 74), (5, vI i)] rfl rfl (List.forall_mem_cons.mpr ⟨rfl, List.forall_mem_cons.mpr ⟨rfl, List.forall_mem_cons.mpr ⟨rfl, List.forall_mem_cons.mpr ⟨rfl, List.forall_mem_cons.mpr ⟨rfl, List.forall_mem_cons.mpr ⟨rfl, fun _ h => absurd h List.not_mem_nil⟩⟩⟩⟩⟩⟩) (List.forall_mem_cons.mpr ⟨Or.inr (Or.inl ⟨_, rfl⟩), List.forall_mem_cons.mpr ⟨Or.inr (Or.inl ⟨_, rfl⟩), List.forall_mem_cons.mpr ⟨Or.inl rfl, List.forall_mem_cons.mpr ⟨Or.inl rfl, List.forall_mem_cons.mpr ⟨Or.inl rfl, List.forall_mem_cons.mpr ⟨Or.inl rfl, List.forall_mem_cons.mpr ⟨Or.inl rfl, List.forall_mem_cons.mpr ⟨Or.inl rfl, fun _ h => absurd h List.not_mem_nil⟩⟩⟩⟩⟩⟩⟩⟩) ?_
    exact kk n1 a1 b1 _ hFI
  | inl a =>
    obtain ⟨hx1, F9, e9, e90⟩ := hx
    obtain ⟨hx3, hxa⟩ := hx2
    subst hx1; subst hxa
    refine eW_icmp_eqE rfl hx3 ?_
    refine eW_iload 606 rfl rfl rfl ?_
    refine eW_if_ne 609 rfl rfl (by unfold i32; omega) (fun c9 => absurd rfl c9) (fun _ => ?_)
    refine eW_aload_n 610 rfl rfl rfl ?_
    refine eW_iconst 611 rfl rfl ?_
    refine eW_laloadx 612 rfl rfl (Int32.ofInt x2).toInt64 (Nat.ble_eq_true_of_le (by omega)) (ew.trans e9) (by omega) (by omega) (by unfold i32; omega) e90 ?_
    refine eW_iload 614 rfl rfl rfl ?_
    refine eW_i2lx 615 rfl rfl ?_
    refine eW_lcmpE 616 rfl rfl rfl ?_
    refine eW_if_eq 619 rfl rfl (by unfold i32; omega) (fun _ => ?_) (fun c9 => absurd rfl c9)
    refine eW_goto rfl ?_
    refine eW_reU [(0, .retAddr 0), (1, .ref 0), (2, .ref 63), (3, .ref 73), (4, .ref 74), (5, vI i)] rfl rfl (List.forall_mem_cons.mpr ⟨rfl, List.forall_mem_cons.mpr ⟨rfl, List.forall_mem_cons.mpr ⟨rfl, List.forall_mem_cons.mpr ⟨rfl, List.forall_mem_cons.mpr ⟨rfl, List.forall_mem_cons.mpr ⟨rfl, fun _ h => absurd h List.not_mem_nil⟩⟩⟩⟩⟩⟩) (List.forall_mem_cons.mpr ⟨Or.inr (Or.inl ⟨_, rfl⟩), List.forall_mem_cons.mpr ⟨Or.inr (Or.inl ⟨_, rfl⟩), List.forall_mem_cons.mpr ⟨Or.inl rfl, List.forall_mem_cons.mpr ⟨Or.inl rfl, List.forall_mem_cons.mpr ⟨Or.inl rfl, List.forall_mem_cons.mpr ⟨Or.inl rfl, List.forall_mem_cons.mpr ⟨Or.inl rfl, List.forall_mem_cons.mpr ⟨Or.inl rfl, fun _ h => absurd h List.not_mem_nil⟩⟩⟩⟩⟩⟩⟩⟩) ?_
    exact kk n1 a1 b1 _ hFI
set_option maxRecDepth 20000 in
theorem lc_7 {ox : Nat → Option (Nat × Nat × (Nat → Int32))} {d N n k z : Nat} {h : eHp} {xs : Nat → Int} {i : Int} {P : eR → Prop} (hox : ox 0 = some (0, n, eIA xs)) (hxs : ∀ j, i32 (xs j)) (hi : 0 ≤ i ∧ i + 4 ≤ n) (hn : n ≤ 2048) (hN : 75 ≤ N) {fs : List Value} (h0 : h 0 = .inr (10, fs)) {v : Int} {FF : Nat → eHp → Nat → Nat → Prop} (hL : eSp (d + 1) eM_X6_scoops [.ref 0] N h (lB v N FF)) {FI : Nat → Nat → Nat → eHp → Prop} (hM : ∀ N1 h1 k1 z1, FF N1 h1 k1 z1 → 75 ≤ N1 ∧ (∃ fs, h1 63 = .inr (11, fs)) ∧ eSp (d + 1) eM_X7_scoops [.ref 63] N1 h1 (lNq v N1 (FI N1 k1 z1))) (kk : ∀ N1 k1 z1 h1, FI N1 k1 z1 h1 → eWp ox (eEv (d + 1)) eM_L_law (1930, [(0, .retAddr 0), (1, .ref 0), (2, .ref 63), (3, .ref 73), (4, .ref 74), (5, vI i)], [], N1, h1, k + k1, z + z1) P) : eWp ox (eEv (d + 1)) eM_L_law (624, [(0, .retAddr 0), (1, .ref 0), (2, .ref 63), (3, .ref 73), (4, .ref 74), (5, vI i)], [], N, h, k, z) P := by
  refine eW_aload_n 625 rfl rfl rfl ?_
  refine eW_callM 628 [.ref 0] [] (eS_callV rfl rfl rfl (Nat.ble_eq_true_of_le (by omega)) h0 rfl) rfl rfl rfl (by simp only [vI, eClL, eClV, List.all_cons, List.all_nil, Bool.and_true, Bool.and_eq_true, Bool.true_and, Nat.ble_eq]; first | done | omega) (lB_M hL) ?_
  intro v1 n1 h1 a1 b1 f1
  obtain ⟨rfl, hle, hF⟩ := f1
  show eWp _ _ _ (628, [(0, .retAddr 0), (1, .ref 0), (2, .ref 63), (3, .ref 73), (4, .ref 74), (5, vI i)], [vI v], _, h1, _, _) _
  obtain ⟨hN1, ⟨fs1, e63⟩, hm⟩ := hM _ _ _ _ hF
  refine eW_aload_n 629 rfl rfl rfl ?_
  refine eW_callM 632 [.ref 63] [vI v] (eS_callV rfl rfl rfl (Nat.ble_eq_true_of_le (by omega)) e63 rfl) rfl rfl rfl (by simp only [vI, eClL, eClV, List.all_cons, List.all_nil, Bool.and_true, Bool.and_eq_true, Bool.true_and, Nat.ble_eq]; first | done | omega) (lNq_M hm) ?_
  intro v2 n2 h2 a2 b2 f2
  obtain ⟨rfl, rfl, rfl, rfl, hFI⟩ := f2
  show eWp _ _ _ (632, [(0, .retAddr 0), (1, .ref 0), (2, .ref 63), (3, .ref 73), (4, .ref 74), (5, vI i)], [vI v, vI v], _, h2, _, _) _
  refine eW_icmp_eqE rfl rfl ?_
  exact kk n1 a1 b1 _ hFI
set_option maxRecDepth 20000 in
theorem lc_8 {ox : Nat → Option (Nat × Nat × (Nat → Int32))} {d N n k z : Nat} {h : eHp} {xs : Nat → Int} {i : Int} {P : eR → Prop} (hox : ox 0 = some (0, n, eIA xs)) (hxs : ∀ j, i32 (xs j)) (hi : 0 ≤ i ∧ i + 4 ≤ n) (hn : n ≤ 2048) (hN : 75 ≤ N) {r : Int ⊕ String} {l : List String} {FF : Nat → eHp → Nat → Nat → Prop} (hr : ∀ E, r = .inr E → 1 ≤ lCd l E ∧ lCd l E ≤ 3) (hL : eSp (d + 1) eM_L_scoopAt [.ref 0, vI (xs (i + 1).toNat), vI (xs (i + 2).toNat), .ref 73] N h (lR 73 lRow73 lH73 r l FF)) {FI : Nat → Nat → Nat → eHp → Prop} (hM : ∀ N1 g1 h1 k1 z1, FF N1 g1 k1 z1 → (∀ i, i ≠ 73 → h1 i = g1 i) → lRow73 (h1 73) → 75 ≤ N1 ∧ (∃ fs, h1 63 = .inr (11, fs)) ∧ eSp (d + 1) eM_X7_scoopAt [.ref 63, vI (xs (i + 1).toNat), vI (xs (i + 2).toNat)] N1 h1 (lM r l N1 h1 (FI N1 k1 z1))) (kk : ∀ N1 k1 z1 h1, FI N1 k1 z1 h1 → eWp ox (eEv (d + 1)) eM_L_law (1930, [(0, .retAddr 0), (1, .ref 0), (2, .ref 63), (3, .ref 73), (4, .ref 74), (5, vI i)], [], N1, h1, k + k1, z + z1) P) : eWp ox (eEv (d + 1)) eM_L_law (637, [(0, .retAddr 0), (1, .ref 0), (2, .ref 63), (3, .ref 73), (4, .ref 74), (5, vI i)], [], N, h, k, z) P := by
  refine eW_aload_n 638 rfl rfl rfl ?_
  refine eW_aload_n_out 639 rfl rfl rfl ?_
  refine eW_iload 641 rfl rfl rfl ?_
  refine eW_iconst 642 rfl rfl ?_
  refine eW_iadd 643 rfl rfl ?_
  refine eW_iaload_o 644 rfl rfl (xs (i + 1).toNat) hox (by omega) (by omega) (by unfold i32; omega) rfl ?_
  refine eW_aload_n_out 645 rfl rfl rfl ?_
  refine eW_iload 647 rfl rfl rfl ?_
  refine eW_iconst 648 rfl rfl ?_
  refine eW_iadd 649 rfl rfl ?_
  refine eW_iaload_o 650 rfl rfl (xs (i + 2).toNat) hox (by omega) (by omega) (by unfold i32; omega) rfl ?_
  refine eW_aload_n 651 rfl rfl rfl ?_
  refine eW_callM 654 [.ref 0, vI (xs (i + 1).toNat), vI (xs (i + 2).toNat), .ref 73] [] (eS_callS rfl rfl (Or.inl rfl) rfl) rfl rfl rfl (by simp only [vI, eClL, eClV, List.all_cons, List.all_nil, Bool.and_true, Bool.and_eq_true, Bool.true_and, Nat.ble_eq]; first | done | omega) (lR_M hL) ?_
  intro v1 n1 h1 a1 b1 f1
  obtain ⟨x1, g1, rfl, hF, ho, hw, hx⟩ := f1
  show eWp _ _ _ (654, [(0, .retAddr 0), (1, .ref 0), (2, .ref 63), (3, .ref 73), (4, .ref 74), (5, vI i)], [vI x1], _, h1, _, _) _
  refine eW_istore 656 rfl rfl [(6, vI x1), (0, .retAddr 0), (1, .ref 0), (2, .ref 63), (3, .ref 73), (4, .ref 74), (5, vI i)] rfl rfl ?_
  obtain ⟨hN1, ⟨fs1, e63⟩, hm⟩ := hM _ _ _ _ _ hF ho hw
  refine eW_aload_n 657 rfl rfl rfl ?_
  refine eW_aload_n_out 658 rfl rfl rfl ?_
  refine eW_iload 660 rfl rfl rfl ?_
  refine eW_iconst 661 rfl rfl ?_
  refine eW_iadd 662 rfl rfl ?_
  refine eW_iaload_o 663 rfl rfl (xs (i + 1).toNat) hox (by omega) (by omega) (by unfold i32; omega) rfl ?_
  refine eW_aload_n_out 664 rfl rfl rfl ?_
  refine eW_iload 666 rfl rfl rfl ?_
  refine eW_iconst 667 rfl rfl ?_
  refine eW_iadd 668 rfl rfl ?_
  refine eW_iaload_o 669 rfl rfl (xs (i + 2).toNat) hox (by omega) (by omega) (by unfold i32; omega) rfl ?_
  refine eW_callM 672 [.ref 63, vI (xs (i + 1).toNat), vI (xs (i + 2).toNat)] [] (eS_callV rfl rfl rfl (Nat.ble_eq_true_of_le (by omega)) e63 rfl) rfl rfl rfl (by simp only [vI, eClL, eClV, List.all_cons, List.all_nil, Bool.and_true, Bool.and_eq_true, Bool.true_and, Nat.ble_eq]; first | done | omega) (lM_M hm) ?_
  intro v2 n2 h2 a2 b2 f2
  obtain ⟨x2, s2, A2, rfl, rfl, rfl, rfl, hm2, ew, hx2, hFI⟩ := f2
  show eWp _ _ _ (672, [(6, vI x1), (0, .retAddr 0), (1, .ref 0), (2, .ref 63), (3, .ref 73), (4, .ref 74), (5, vI i)], [vI x2], _, h2, _, _) _
  refine eW_istore 674 rfl rfl [(7, vI x2), (6, vI x1), (0, .retAddr 0), (1, .ref 0), (2, .ref 63), (3, .ref 73), (4, .ref 74), (5, vI i)] rfl rfl ?_
  refine eW_aload_n 675 rfl rfl rfl ?_
  refine eW_callM 678 [.ref 63] [] (eS_callV rfl rfl rfl (Nat.ble_eq_true_of_le (by omega)) hm2.1 rfl) rfl rfl rfl (by simp only [vI, eClL, eClV, List.all_cons, List.all_nil, Bool.and_true, Bool.and_eq_true, Bool.true_and, Nat.ble_eq]; first | done | omega) (eRet_M (m_thrown (d := d) hm2 hN1)) ?_
  intro v3 n3 h3 a3 b3 f3
  obtain ⟨rfl, rfl, rfl, rfl, rfl⟩ := f3
  show eWp _ _ _ (678, [(7, vI x2), (6, vI x1), (0, .retAddr 0), (1, .ref 0), (2, .ref 63), (3, .ref 73), (4, .ref 74), (5, vI i)], [vI (s2 7)], _, _, _, _) _
  refine eW_iload 680 rfl rfl rfl ?_
  cases r with
  | inr E =>
    have hE := hr E rfl
    have hx1 : x1 = lCd l E := hx
    have hx3 : s2 7 = lCd l E := hx2
    refine eW_icmp_eqE rfl (hx3.trans hx1.symm) ?_
    refine eW_iload 687 rfl rfl rfl ?_
    refine eW_if_ne 690 rfl rfl (by unfold i32; omega) (fun _ => ?_) (fun c9 => absurd (show x1 ≠ 0 by omega) c9)
    refine eW_goto rfl ?_
    refine eW_reU [(0, .retAddr 0), (1, .ref 0), (2, .ref 63), (3, .ref 73), (4, .ref 74), (5, vI i)] rfl rfl (List.forall_mem_cons.mpr ⟨rfl, List.forall_mem_cons.mpr ⟨rfl, List.forall_mem_cons.mpr ⟨rfl, List.forall_mem_cons.mpr ⟨rfl, List.forall_mem_cons.mpr ⟨rfl, List.forall_mem_cons.mpr ⟨rfl, fun _ h => absurd h List.not_mem_nil⟩⟩⟩⟩⟩⟩) (List.forall_mem_cons.mpr ⟨Or.inr (Or.inl ⟨_, rfl⟩), List.forall_mem_cons.mpr ⟨Or.inr (Or.inl ⟨_, rfl⟩), List.forall_mem_cons.mpr ⟨Or.inl rfl, List.forall_mem_cons.mpr ⟨Or.inl rfl, List.forall_mem_cons.mpr ⟨Or.inl rfl, List.forall_mem_cons.mpr ⟨Or.inl rfl, List.forall_mem_cons.mpr ⟨Or.inl rfl, List.forall_mem_cons.mpr ⟨Or.inl rfl, fun _ h => absurd h List.not_mem_nil⟩⟩⟩⟩⟩⟩⟩⟩) ?_
    exact kk n1 a1 b1 _ hFI
  | inl a =>
    obtain ⟨hx1, F9, e9, e90⟩ := hx
    obtain ⟨hx3, hxa⟩ := hx2
    subst hx1; subst hxa
    refine eW_icmp_eqE rfl hx3 ?_
    refine eW_iload 687 rfl rfl rfl ?_
    refine eW_if_ne 690 rfl rfl (by unfold i32; omega) (fun c9 => absurd rfl c9) (fun _ => ?_)
    refine eW_aload_n 691 rfl rfl rfl ?_
    refine eW_iconst 692 rfl rfl ?_
    refine eW_laloadx 693 rfl rfl (Int32.ofInt x2).toInt64 (Nat.ble_eq_true_of_le (by omega)) (ew.trans e9) (by omega) (by omega) (by unfold i32; omega) e90 ?_
    refine eW_iload 695 rfl rfl rfl ?_
    refine eW_i2lx 696 rfl rfl ?_
    refine eW_lcmpE 697 rfl rfl rfl ?_
    refine eW_if_eq 700 rfl rfl (by unfold i32; omega) (fun _ => ?_) (fun c9 => absurd rfl c9)
    refine eW_goto rfl ?_
    refine eW_reU [(0, .retAddr 0), (1, .ref 0), (2, .ref 63), (3, .ref 73), (4, .ref 74), (5, vI i)] rfl rfl (List.forall_mem_cons.mpr ⟨rfl, List.forall_mem_cons.mpr ⟨rfl, List.forall_mem_cons.mpr ⟨rfl, List.forall_mem_cons.mpr ⟨rfl, List.forall_mem_cons.mpr ⟨rfl, List.forall_mem_cons.mpr ⟨rfl, fun _ h => absurd h List.not_mem_nil⟩⟩⟩⟩⟩⟩) (List.forall_mem_cons.mpr ⟨Or.inr (Or.inl ⟨_, rfl⟩), List.forall_mem_cons.mpr ⟨Or.inr (Or.inl ⟨_, rfl⟩), List.forall_mem_cons.mpr ⟨Or.inl rfl, List.forall_mem_cons.mpr ⟨Or.inl rfl, List.forall_mem_cons.mpr ⟨Or.inl rfl, List.forall_mem_cons.mpr ⟨Or.inl rfl, List.forall_mem_cons.mpr ⟨Or.inl rfl, List.forall_mem_cons.mpr ⟨Or.inl rfl, fun _ h => absurd h List.not_mem_nil⟩⟩⟩⟩⟩⟩⟩⟩) ?_
    exact kk n1 a1 b1 _ hFI
set_option maxRecDepth 20000 in
theorem lc_9 {ox : Nat → Option (Nat × Nat × (Nat → Int32))} {d N n k z : Nat} {h : eHp} {xs : Nat → Int} {i : Int} {P : eR → Prop} (hox : ox 0 = some (0, n, eIA xs)) (hxs : ∀ j, i32 (xs j)) (hi : 0 ≤ i ∧ i + 4 ≤ n) (hn : n ≤ 2048) (hN : 75 ≤ N) {r : Int ⊕ String} {l : List String} {FF : Nat → eHp → Nat → Nat → Prop} (hr : ∀ E, r = .inr E → 1 ≤ lCd l E ∧ lCd l E ≤ 3) (hL : eSp (d + 1) eM_L_told [.ref 0, vI (xs (i + 1).toNat), .ref 73] N h (lR 73 lRow73 lH73 r l FF)) {FI : Nat → Nat → Nat → eHp → Prop} (hM : ∀ N1 g1 h1 k1 z1, FF N1 g1 k1 z1 → (∀ i, i ≠ 73 → h1 i = g1 i) → lRow73 (h1 73) → 75 ≤ N1 ∧ (∃ fs, h1 63 = .inr (11, fs)) ∧ eSp (d + 1) eM_X7_told [.ref 63, vI (xs (i + 1).toNat)] N1 h1 (lM r l N1 h1 (FI N1 k1 z1))) (kk : ∀ N1 k1 z1 h1, FI N1 k1 z1 h1 → eWp ox (eEv (d + 1)) eM_L_law (1930, [(0, .retAddr 0), (1, .ref 0), (2, .ref 63), (3, .ref 73), (4, .ref 74), (5, vI i)], [], N1, h1, k + k1, z + z1) P) : eWp ox (eEv (d + 1)) eM_L_law (705, [(0, .retAddr 0), (1, .ref 0), (2, .ref 63), (3, .ref 73), (4, .ref 74), (5, vI i)], [], N, h, k, z) P := by
  refine eW_aload_n 706 rfl rfl rfl ?_
  refine eW_aload_n_out 707 rfl rfl rfl ?_
  refine eW_iload 709 rfl rfl rfl ?_
  refine eW_iconst 710 rfl rfl ?_
  refine eW_iadd 711 rfl rfl ?_
  refine eW_iaload_o 712 rfl rfl (xs (i + 1).toNat) hox (by omega) (by omega) (by unfold i32; omega) rfl ?_
  refine eW_aload_n 713 rfl rfl rfl ?_
  refine eW_callM 716 [.ref 0, vI (xs (i + 1).toNat), .ref 73] [] (eS_callS rfl rfl (Or.inl rfl) rfl) rfl rfl rfl (by simp only [vI, eClL, eClV, List.all_cons, List.all_nil, Bool.and_true, Bool.and_eq_true, Bool.true_and, Nat.ble_eq]; first | done | omega) (lR_M hL) ?_
  intro v1 n1 h1 a1 b1 f1
  obtain ⟨x1, g1, rfl, hF, ho, hw, hx⟩ := f1
  show eWp _ _ _ (716, [(0, .retAddr 0), (1, .ref 0), (2, .ref 63), (3, .ref 73), (4, .ref 74), (5, vI i)], [vI x1], _, h1, _, _) _
  refine eW_istore 718 rfl rfl [(6, vI x1), (0, .retAddr 0), (1, .ref 0), (2, .ref 63), (3, .ref 73), (4, .ref 74), (5, vI i)] rfl rfl ?_
  obtain ⟨hN1, ⟨fs1, e63⟩, hm⟩ := hM _ _ _ _ _ hF ho hw
  refine eW_aload_n 719 rfl rfl rfl ?_
  refine eW_aload_n_out 720 rfl rfl rfl ?_
  refine eW_iload 722 rfl rfl rfl ?_
  refine eW_iconst 723 rfl rfl ?_
  refine eW_iadd 724 rfl rfl ?_
  refine eW_iaload_o 725 rfl rfl (xs (i + 1).toNat) hox (by omega) (by omega) (by unfold i32; omega) rfl ?_
  refine eW_callM 728 [.ref 63, vI (xs (i + 1).toNat)] [] (eS_callV rfl rfl rfl (Nat.ble_eq_true_of_le (by omega)) e63 rfl) rfl rfl rfl (by simp only [vI, eClL, eClV, List.all_cons, List.all_nil, Bool.and_true, Bool.and_eq_true, Bool.true_and, Nat.ble_eq]; first | done | omega) (lM_M hm) ?_
  intro v2 n2 h2 a2 b2 f2
  obtain ⟨x2, s2, A2, rfl, rfl, rfl, rfl, hm2, ew, hx2, hFI⟩ := f2
  show eWp _ _ _ (728, [(6, vI x1), (0, .retAddr 0), (1, .ref 0), (2, .ref 63), (3, .ref 73), (4, .ref 74), (5, vI i)], [vI x2], _, h2, _, _) _
  refine eW_istore 730 rfl rfl [(7, vI x2), (6, vI x1), (0, .retAddr 0), (1, .ref 0), (2, .ref 63), (3, .ref 73), (4, .ref 74), (5, vI i)] rfl rfl ?_
  refine eW_aload_n 731 rfl rfl rfl ?_
  refine eW_callM 734 [.ref 63] [] (eS_callV rfl rfl rfl (Nat.ble_eq_true_of_le (by omega)) hm2.1 rfl) rfl rfl rfl (by simp only [vI, eClL, eClV, List.all_cons, List.all_nil, Bool.and_true, Bool.and_eq_true, Bool.true_and, Nat.ble_eq]; first | done | omega) (eRet_M (m_thrown (d := d) hm2 hN1)) ?_
  intro v3 n3 h3 a3 b3 f3
  obtain ⟨rfl, rfl, rfl, rfl, rfl⟩ := f3
  show eWp _ _ _ (734, [(7, vI x2), (6, vI x1), (0, .retAddr 0), (1, .ref 0), (2, .ref 63), (3, .ref 73), (4, .ref 74), (5, vI i)], [vI (s2 7)], _, _, _, _) _
  refine eW_iload 736 rfl rfl rfl ?_
  cases r with
  | inr E =>
    have hE := hr E rfl
    have hx1 : x1 = lCd l E := hx
    have hx3 : s2 7 = lCd l E := hx2
    refine eW_icmp_eqE rfl (hx3.trans hx1.symm) ?_
    refine eW_iload 743 rfl rfl rfl ?_
    refine eW_if_ne 746 rfl rfl (by unfold i32; omega) (fun _ => ?_) (fun c9 => absurd (show x1 ≠ 0 by omega) c9)
    refine eW_goto rfl ?_
    refine eW_reU [(0, .retAddr 0), (1, .ref 0), (2, .ref 63), (3, .ref 73), (4, .ref 74), (5, vI i)] rfl rfl (List.forall_mem_cons.mpr ⟨rfl, List.forall_mem_cons.mpr ⟨rfl, List.forall_mem_cons.mpr ⟨rfl, List.forall_mem_cons.mpr ⟨rfl, List.forall_mem_cons.mpr ⟨rfl, List.forall_mem_cons.mpr ⟨rfl, fun _ h => absurd h List.not_mem_nil⟩⟩⟩⟩⟩⟩) (List.forall_mem_cons.mpr ⟨Or.inr (Or.inl ⟨_, rfl⟩), List.forall_mem_cons.mpr ⟨Or.inr (Or.inl ⟨_, rfl⟩), List.forall_mem_cons.mpr ⟨Or.inl rfl, List.forall_mem_cons.mpr ⟨Or.inl rfl, List.forall_mem_cons.mpr ⟨Or.inl rfl, List.forall_mem_cons.mpr ⟨Or.inl rfl, List.forall_mem_cons.mpr ⟨Or.inl rfl, List.forall_mem_cons.mpr ⟨Or.inl rfl, fun _ h => absurd h List.not_mem_nil⟩⟩⟩⟩⟩⟩⟩⟩) ?_
    exact kk n1 a1 b1 _ hFI
  | inl a =>
    obtain ⟨hx1, F9, e9, e90⟩ := hx
    obtain ⟨hx3, hxa⟩ := hx2
    subst hx1; subst hxa
    refine eW_icmp_eqE rfl hx3 ?_
    refine eW_iload 743 rfl rfl rfl ?_
    refine eW_if_ne 746 rfl rfl (by unfold i32; omega) (fun c9 => absurd rfl c9) (fun _ => ?_)
    refine eW_aload_n 747 rfl rfl rfl ?_
    refine eW_iconst 748 rfl rfl ?_
    refine eW_laloadx 749 rfl rfl (Int32.ofInt x2).toInt64 (Nat.ble_eq_true_of_le (by omega)) (ew.trans e9) (by omega) (by omega) (by unfold i32; omega) e90 ?_
    refine eW_iload 751 rfl rfl rfl ?_
    refine eW_i2lx 752 rfl rfl ?_
    refine eW_lcmpE 753 rfl rfl rfl ?_
    refine eW_if_eq 756 rfl rfl (by unfold i32; omega) (fun _ => ?_) (fun c9 => absurd rfl c9)
    refine eW_goto rfl ?_
    refine eW_reU [(0, .retAddr 0), (1, .ref 0), (2, .ref 63), (3, .ref 73), (4, .ref 74), (5, vI i)] rfl rfl (List.forall_mem_cons.mpr ⟨rfl, List.forall_mem_cons.mpr ⟨rfl, List.forall_mem_cons.mpr ⟨rfl, List.forall_mem_cons.mpr ⟨rfl, List.forall_mem_cons.mpr ⟨rfl, List.forall_mem_cons.mpr ⟨rfl, fun _ h => absurd h List.not_mem_nil⟩⟩⟩⟩⟩⟩) (List.forall_mem_cons.mpr ⟨Or.inr (Or.inl ⟨_, rfl⟩), List.forall_mem_cons.mpr ⟨Or.inr (Or.inl ⟨_, rfl⟩), List.forall_mem_cons.mpr ⟨Or.inl rfl, List.forall_mem_cons.mpr ⟨Or.inl rfl, List.forall_mem_cons.mpr ⟨Or.inl rfl, List.forall_mem_cons.mpr ⟨Or.inl rfl, List.forall_mem_cons.mpr ⟨Or.inl rfl, List.forall_mem_cons.mpr ⟨Or.inl rfl, fun _ h => absurd h List.not_mem_nil⟩⟩⟩⟩⟩⟩⟩⟩) ?_
    exact kk n1 a1 b1 _ hFI
set_option maxRecDepth 20000 in
theorem lc_10_0 {ox : Nat → Option (Nat × Nat × (Nat → Int32))} {d N n k z : Nat} {h : eHp} {xs : Nat → Int} {i : Int} {P : eR → Prop} (hox : ox 0 = some (0, n, eIA xs)) (hxs : ∀ j, i32 (xs j)) (hi : 0 ≤ i ∧ i + 4 ≤ n) (hn : n ≤ 2048) (hN : 75 ≤ N) {r : Int ⊕ String} {l : List String} {FF : Nat → eHp → Nat → Nat → Prop} (hr : ∀ E, r = .inr E → 1 ≤ lCd l E ∧ lCd l E ≤ 3) (hb : ∀ a, r = .inl a → a = 0 ∨ a = 1) (hz : xs (i + 1).toNat = 0) (hL : eSp (d + 1) eM_L_wins [.ref 0, vI 0, .ref 73] N h (lR 73 lRow73 lH73 r l FF)) {FI : Nat → Nat → Nat → eHp → Prop} (hM : ∀ N1 g1 h1 k1 z1, FF N1 g1 k1 z1 → (∀ i, i ≠ 73 → h1 i = g1 i) → lRow73 (h1 73) → 75 ≤ N1 ∧ (∃ fs, h1 63 = .inr (11, fs)) ∧ eSp (d + 1) eM_X7_wins [.ref 63, vI 0] N1 h1 (lM r l N1 h1 (FI N1 k1 z1))) (kk : ∀ N1 k1 z1 h1, FI N1 k1 z1 h1 → eWp ox (eEv (d + 1)) eM_L_law (1930, [(0, .retAddr 0), (1, .ref 0), (2, .ref 63), (3, .ref 73), (4, .ref 74), (5, vI i)], [], N1, h1, k + k1, z + z1) P) : eWp ox (eEv (d + 1)) eM_L_law (761, [(0, .retAddr 0), (1, .ref 0), (2, .ref 63), (3, .ref 73), (4, .ref 74), (5, vI i)], [], N, h, k, z) P := by
  refine eW_aload_n 762 rfl rfl rfl ?_
  refine eW_aload_n_out 763 rfl rfl rfl ?_
  refine eW_iload 765 rfl rfl rfl ?_
  refine eW_iconst 766 rfl rfl ?_
  refine eW_iadd 767 rfl rfl ?_
  refine eW_iaload_o 768 rfl rfl (xs (i + 1).toNat) hox (by omega) (by omega) (by unfold i32; omega) rfl ?_
  refine eW_if_eq 771 rfl rfl (hxs _) (fun _ => ?_) (fun c9 => absurd hz c9)
  refine eW_iconst 776 rfl rfl ?_
  refine eW_aload_n 777 rfl rfl rfl ?_
  refine eW_callM 780 [.ref 0, vI 0, .ref 73] [] (eS_callS rfl rfl (Or.inl rfl) rfl) rfl rfl rfl (by simp only [vI, eClL, eClV, List.all_cons, List.all_nil, Bool.and_true, Bool.and_eq_true, Bool.true_and, Nat.ble_eq]; first | done | omega) (lR_M hL) ?_
  intro v1 n1 h1 a1 b1 f1
  obtain ⟨x1, g1, rfl, hF, ho, hw, hx⟩ := f1
  show eWp _ _ _ (780, [(0, .retAddr 0), (1, .ref 0), (2, .ref 63), (3, .ref 73), (4, .ref 74), (5, vI i)], [vI x1], _, h1, _, _) _
  refine eW_istore 782 rfl rfl [(6, vI x1), (0, .retAddr 0), (1, .ref 0), (2, .ref 63), (3, .ref 73), (4, .ref 74), (5, vI i)] rfl rfl ?_
  obtain ⟨hN1, ⟨fs1, e63⟩, hm⟩ := hM _ _ _ _ _ hF ho hw
  refine eW_aload_n 783 rfl rfl rfl ?_
  refine eW_aload_n_out 784 rfl rfl rfl ?_
  refine eW_iload 786 rfl rfl rfl ?_
  refine eW_iconst 787 rfl rfl ?_
  refine eW_iadd 788 rfl rfl ?_
  refine eW_iaload_o 789 rfl rfl (xs (i + 1).toNat) hox (by omega) (by omega) (by unfold i32; omega) rfl ?_
  refine eW_if_eq 792 rfl rfl (hxs _) (fun _ => ?_) (fun c9 => absurd hz c9)
  refine eW_iconst 797 rfl rfl ?_
  refine eW_callM 800 [.ref 63, vI 0] [] (eS_callV rfl rfl rfl (Nat.ble_eq_true_of_le (by omega)) e63 rfl) rfl rfl rfl (by simp only [vI, eClL, eClV, List.all_cons, List.all_nil, Bool.and_true, Bool.and_eq_true, Bool.true_and, Nat.ble_eq]; first | done | omega) (lM_M hm) ?_
  intro v2 n2 h2 a2 b2 f2
  obtain ⟨x2, s2, A2, rfl, rfl, rfl, rfl, hm2, ew, hx2, hFI⟩ := f2
  show eWp _ _ _ (800, [(6, vI x1), (0, .retAddr 0), (1, .ref 0), (2, .ref 63), (3, .ref 73), (4, .ref 74), (5, vI i)], [vI x2], _, h2, _, _) _
  refine eW_istore 802 rfl rfl [(7, vI x2), (6, vI x1), (0, .retAddr 0), (1, .ref 0), (2, .ref 63), (3, .ref 73), (4, .ref 74), (5, vI i)] rfl rfl ?_
  refine eW_aload_n 803 rfl rfl rfl ?_
  refine eW_callM 806 [.ref 63] [] (eS_callV rfl rfl rfl (Nat.ble_eq_true_of_le (by omega)) hm2.1 rfl) rfl rfl rfl (by simp only [vI, eClL, eClV, List.all_cons, List.all_nil, Bool.and_true, Bool.and_eq_true, Bool.true_and, Nat.ble_eq]; first | done | omega) (eRet_M (m_thrown (d := d) hm2 hN1)) ?_
  intro v3 n3 h3 a3 b3 f3
  obtain ⟨rfl, rfl, rfl, rfl, rfl⟩ := f3
  show eWp _ _ _ (806, [(7, vI x2), (6, vI x1), (0, .retAddr 0), (1, .ref 0), (2, .ref 63), (3, .ref 73), (4, .ref 74), (5, vI i)], [vI (s2 7)], _, _, _, _) _
  refine eW_iload 808 rfl rfl rfl ?_
  cases r with
  | inr E =>
    have hE := hr E rfl
    have hx1 : x1 = lCd l E := hx
    have hx3 : s2 7 = lCd l E := hx2
    refine eW_icmp_eqE rfl (hx3.trans hx1.symm) ?_
    refine eW_iload 815 rfl rfl rfl ?_
    refine eW_if_ne 818 rfl rfl (by unfold i32; omega) (fun _ => ?_) (fun c9 => absurd (show x1 ≠ 0 by omega) c9)
    refine eW_goto rfl ?_
    refine eW_reU [(0, .retAddr 0), (1, .ref 0), (2, .ref 63), (3, .ref 73), (4, .ref 74), (5, vI i)] rfl rfl (List.forall_mem_cons.mpr ⟨rfl, List.forall_mem_cons.mpr ⟨rfl, List.forall_mem_cons.mpr ⟨rfl, List.forall_mem_cons.mpr ⟨rfl, List.forall_mem_cons.mpr ⟨rfl, List.forall_mem_cons.mpr ⟨rfl, fun _ h => absurd h List.not_mem_nil⟩⟩⟩⟩⟩⟩) (List.forall_mem_cons.mpr ⟨Or.inr (Or.inl ⟨_, rfl⟩), List.forall_mem_cons.mpr ⟨Or.inr (Or.inl ⟨_, rfl⟩), List.forall_mem_cons.mpr ⟨Or.inl rfl, List.forall_mem_cons.mpr ⟨Or.inl rfl, List.forall_mem_cons.mpr ⟨Or.inl rfl, List.forall_mem_cons.mpr ⟨Or.inl rfl, List.forall_mem_cons.mpr ⟨Or.inl rfl, List.forall_mem_cons.mpr ⟨Or.inl rfl, fun _ h => absurd h List.not_mem_nil⟩⟩⟩⟩⟩⟩⟩⟩) ?_
    exact kk n1 a1 b1 _ hFI
  | inl a =>
    obtain ⟨hx1, F9, e9, e90⟩ := hx
    obtain ⟨hx3, hxa⟩ := hx2
    subst hx1; subst hxa
    refine eW_icmp_eqE rfl hx3 ?_
    refine eW_iload 815 rfl rfl rfl ?_
    refine eW_if_ne 818 rfl rfl (by unfold i32; omega) (fun c9 => absurd rfl c9) (fun _ => ?_)
    refine eW_aload_n 819 rfl rfl rfl ?_
    refine eW_iconst 820 rfl rfl ?_
    refine eW_laloadx 821 rfl rfl (Int32.ofInt x2).toInt64 (Nat.ble_eq_true_of_le (by omega)) (ew.trans e9) (by omega) (by omega) (by unfold i32; omega) e90 ?_
    refine eW_iload 823 rfl rfl rfl ?_
    rcases hb x2 rfl with e01 | e01 <;> subst e01
    · refine eW_if_eq 826 rfl rfl (by unfold i32; omega) (fun c1 => ?_) (fun c1 => absurd c1 (by omega))
      refine eW_lconst 831 rfl rfl 0 rfl ?_
      refine eW_lcmpE 832 rfl rfl (by decide) ?_
      refine eW_if_eq 835 rfl rfl (by unfold i32; omega) (fun _ => ?_) (fun c9 => absurd rfl c9)
      refine eW_goto rfl ?_
      refine eW_reU [(0, .retAddr 0), (1, .ref 0), (2, .ref 63), (3, .ref 73), (4, .ref 74), (5, vI i)] rfl rfl (List.forall_mem_cons.mpr ⟨rfl, List.forall_mem_cons.mpr ⟨rfl, List.forall_mem_cons.mpr ⟨rfl, List.forall_mem_cons.mpr ⟨rfl, List.forall_mem_cons.mpr ⟨rfl, List.forall_mem_cons.mpr ⟨rfl, fun _ h => absurd h List.not_mem_nil⟩⟩⟩⟩⟩⟩) (List.forall_mem_cons.mpr ⟨Or.inr (Or.inl ⟨_, rfl⟩), List.forall_mem_cons.mpr ⟨Or.inr (Or.inl ⟨_, rfl⟩), List.forall_mem_cons.mpr ⟨Or.inl rfl, List.forall_mem_cons.mpr ⟨Or.inl rfl, List.forall_mem_cons.mpr ⟨Or.inl rfl, List.forall_mem_cons.mpr ⟨Or.inl rfl, List.forall_mem_cons.mpr ⟨Or.inl rfl, List.forall_mem_cons.mpr ⟨Or.inl rfl, fun _ h => absurd h List.not_mem_nil⟩⟩⟩⟩⟩⟩⟩⟩) ?_
      exact kk n1 a1 b1 _ hFI
    · refine eW_if_eq 826 rfl rfl (by unfold i32; omega) (fun c1 => absurd c1 (by omega)) (fun c1 => ?_)
      refine eW_lconst 827 rfl rfl 1 rfl ?_
      refine eW_goto rfl ?_
      refine eW_lcmpE 832 rfl rfl (by decide) ?_
      refine eW_if_eq 835 rfl rfl (by unfold i32; omega) (fun _ => ?_) (fun c9 => absurd rfl c9)
      refine eW_goto rfl ?_
      refine eW_reU [(0, .retAddr 0), (1, .ref 0), (2, .ref 63), (3, .ref 73), (4, .ref 74), (5, vI i)] rfl rfl (List.forall_mem_cons.mpr ⟨rfl, List.forall_mem_cons.mpr ⟨rfl, List.forall_mem_cons.mpr ⟨rfl, List.forall_mem_cons.mpr ⟨rfl, List.forall_mem_cons.mpr ⟨rfl, List.forall_mem_cons.mpr ⟨rfl, fun _ h => absurd h List.not_mem_nil⟩⟩⟩⟩⟩⟩) (List.forall_mem_cons.mpr ⟨Or.inr (Or.inl ⟨_, rfl⟩), List.forall_mem_cons.mpr ⟨Or.inr (Or.inl ⟨_, rfl⟩), List.forall_mem_cons.mpr ⟨Or.inl rfl, List.forall_mem_cons.mpr ⟨Or.inl rfl, List.forall_mem_cons.mpr ⟨Or.inl rfl, List.forall_mem_cons.mpr ⟨Or.inl rfl, List.forall_mem_cons.mpr ⟨Or.inl rfl, List.forall_mem_cons.mpr ⟨Or.inl rfl, fun _ h => absurd h List.not_mem_nil⟩⟩⟩⟩⟩⟩⟩⟩) ?_
      exact kk n1 a1 b1 _ hFI
set_option maxRecDepth 20000 in
theorem lc_10_1 {ox : Nat → Option (Nat × Nat × (Nat → Int32))} {d N n k z : Nat} {h : eHp} {xs : Nat → Int} {i : Int} {P : eR → Prop} (hox : ox 0 = some (0, n, eIA xs)) (hxs : ∀ j, i32 (xs j)) (hi : 0 ≤ i ∧ i + 4 ≤ n) (hn : n ≤ 2048) (hN : 75 ≤ N) {r : Int ⊕ String} {l : List String} {FF : Nat → eHp → Nat → Nat → Prop} (hr : ∀ E, r = .inr E → 1 ≤ lCd l E ∧ lCd l E ≤ 3) (hb : ∀ a, r = .inl a → a = 0 ∨ a = 1) (hz : xs (i + 1).toNat ≠ 0) (hL : eSp (d + 1) eM_L_wins [.ref 0, vI 1, .ref 73] N h (lR 73 lRow73 lH73 r l FF)) {FI : Nat → Nat → Nat → eHp → Prop} (hM : ∀ N1 g1 h1 k1 z1, FF N1 g1 k1 z1 → (∀ i, i ≠ 73 → h1 i = g1 i) → lRow73 (h1 73) → 75 ≤ N1 ∧ (∃ fs, h1 63 = .inr (11, fs)) ∧ eSp (d + 1) eM_X7_wins [.ref 63, vI 1] N1 h1 (lM r l N1 h1 (FI N1 k1 z1))) (kk : ∀ N1 k1 z1 h1, FI N1 k1 z1 h1 → eWp ox (eEv (d + 1)) eM_L_law (1930, [(0, .retAddr 0), (1, .ref 0), (2, .ref 63), (3, .ref 73), (4, .ref 74), (5, vI i)], [], N1, h1, k + k1, z + z1) P) : eWp ox (eEv (d + 1)) eM_L_law (761, [(0, .retAddr 0), (1, .ref 0), (2, .ref 63), (3, .ref 73), (4, .ref 74), (5, vI i)], [], N, h, k, z) P := by
  refine eW_aload_n 762 rfl rfl rfl ?_
  refine eW_aload_n_out 763 rfl rfl rfl ?_
  refine eW_iload 765 rfl rfl rfl ?_
  refine eW_iconst 766 rfl rfl ?_
  refine eW_iadd 767 rfl rfl ?_
  refine eW_iaload_o 768 rfl rfl (xs (i + 1).toNat) hox (by omega) (by omega) (by unfold i32; omega) rfl ?_
  refine eW_if_eq 771 rfl rfl (hxs _) (fun c9 => absurd c9 hz) (fun _ => ?_)
  refine eW_iconst 772 rfl rfl ?_
  refine eW_goto rfl ?_
  refine eW_aload_n 777 rfl rfl rfl ?_
  refine eW_callM 780 [.ref 0, vI 1, .ref 73] [] (eS_callS rfl rfl (Or.inl rfl) rfl) rfl rfl rfl (by simp only [vI, eClL, eClV, List.all_cons, List.all_nil, Bool.and_true, Bool.and_eq_true, Bool.true_and, Nat.ble_eq]; first | done | omega) (lR_M hL) ?_
  intro v1 n1 h1 a1 b1 f1
  obtain ⟨x1, g1, rfl, hF, ho, hw, hx⟩ := f1
  show eWp _ _ _ (780, [(0, .retAddr 0), (1, .ref 0), (2, .ref 63), (3, .ref 73), (4, .ref 74), (5, vI i)], [vI x1], _, h1, _, _) _
  refine eW_istore 782 rfl rfl [(6, vI x1), (0, .retAddr 0), (1, .ref 0), (2, .ref 63), (3, .ref 73), (4, .ref 74), (5, vI i)] rfl rfl ?_
  obtain ⟨hN1, ⟨fs1, e63⟩, hm⟩ := hM _ _ _ _ _ hF ho hw
  refine eW_aload_n 783 rfl rfl rfl ?_
  refine eW_aload_n_out 784 rfl rfl rfl ?_
  refine eW_iload 786 rfl rfl rfl ?_
  refine eW_iconst 787 rfl rfl ?_
  refine eW_iadd 788 rfl rfl ?_
  refine eW_iaload_o 789 rfl rfl (xs (i + 1).toNat) hox (by omega) (by omega) (by unfold i32; omega) rfl ?_
  refine eW_if_eq 792 rfl rfl (hxs _) (fun c9 => absurd c9 hz) (fun _ => ?_)
  refine eW_iconst 793 rfl rfl ?_
  refine eW_goto rfl ?_
  refine eW_callM 800 [.ref 63, vI 1] [] (eS_callV rfl rfl rfl (Nat.ble_eq_true_of_le (by omega)) e63 rfl) rfl rfl rfl (by simp only [vI, eClL, eClV, List.all_cons, List.all_nil, Bool.and_true, Bool.and_eq_true, Bool.true_and, Nat.ble_eq]; first | done | omega) (lM_M hm) ?_
  intro v2 n2 h2 a2 b2 f2
  obtain ⟨x2, s2, A2, rfl, rfl, rfl, rfl, hm2, ew, hx2, hFI⟩ := f2
  show eWp _ _ _ (800, [(6, vI x1), (0, .retAddr 0), (1, .ref 0), (2, .ref 63), (3, .ref 73), (4, .ref 74), (5, vI i)], [vI x2], _, h2, _, _) _
  refine eW_istore 802 rfl rfl [(7, vI x2), (6, vI x1), (0, .retAddr 0), (1, .ref 0), (2, .ref 63), (3, .ref 73), (4, .ref 74), (5, vI i)] rfl rfl ?_
  refine eW_aload_n 803 rfl rfl rfl ?_
  refine eW_callM 806 [.ref 63] [] (eS_callV rfl rfl rfl (Nat.ble_eq_true_of_le (by omega)) hm2.1 rfl) rfl rfl rfl (by simp only [vI, eClL, eClV, List.all_cons, List.all_nil, Bool.and_true, Bool.and_eq_true, Bool.true_and, Nat.ble_eq]; first | done | omega) (eRet_M (m_thrown (d := d) hm2 hN1)) ?_
  intro v3 n3 h3 a3 b3 f3
  obtain ⟨rfl, rfl, rfl, rfl, rfl⟩ := f3
  show eWp _ _ _ (806, [(7, vI x2), (6, vI x1), (0, .retAddr 0), (1, .ref 0), (2, .ref 63), (3, .ref 73), (4, .ref 74), (5, vI i)], [vI (s2 7)], _, _, _, _) _
  refine eW_iload 808 rfl rfl rfl ?_
  cases r with
  | inr E =>
    have hE := hr E rfl
    have hx1 : x1 = lCd l E := hx
    have hx3 : s2 7 = lCd l E := hx2
    refine eW_icmp_eqE rfl (hx3.trans hx1.symm) ?_
    refine eW_iload 815 rfl rfl rfl ?_
    refine eW_if_ne 818 rfl rfl (by unfold i32; omega) (fun _ => ?_) (fun c9 => absurd (show x1 ≠ 0 by omega) c9)
    refine eW_goto rfl ?_
    refine eW_reU [(0, .retAddr 0), (1, .ref 0), (2, .ref 63), (3, .ref 73), (4, .ref 74), (5, vI i)] rfl rfl (List.forall_mem_cons.mpr ⟨rfl, List.forall_mem_cons.mpr ⟨rfl, List.forall_mem_cons.mpr ⟨rfl, List.forall_mem_cons.mpr ⟨rfl, List.forall_mem_cons.mpr ⟨rfl, List.forall_mem_cons.mpr ⟨rfl, fun _ h => absurd h List.not_mem_nil⟩⟩⟩⟩⟩⟩) (List.forall_mem_cons.mpr ⟨Or.inr (Or.inl ⟨_, rfl⟩), List.forall_mem_cons.mpr ⟨Or.inr (Or.inl ⟨_, rfl⟩), List.forall_mem_cons.mpr ⟨Or.inl rfl, List.forall_mem_cons.mpr ⟨Or.inl rfl, List.forall_mem_cons.mpr ⟨Or.inl rfl, List.forall_mem_cons.mpr ⟨Or.inl rfl, List.forall_mem_cons.mpr ⟨Or.inl rfl, List.forall_mem_cons.mpr ⟨Or.inl rfl, fun _ h => absurd h List.not_mem_nil⟩⟩⟩⟩⟩⟩⟩⟩) ?_
    exact kk n1 a1 b1 _ hFI
  | inl a =>
    obtain ⟨hx1, F9, e9, e90⟩ := hx
    obtain ⟨hx3, hxa⟩ := hx2
    subst hx1; subst hxa
    refine eW_icmp_eqE rfl hx3 ?_
    refine eW_iload 815 rfl rfl rfl ?_
    refine eW_if_ne 818 rfl rfl (by unfold i32; omega) (fun c9 => absurd rfl c9) (fun _ => ?_)
    refine eW_aload_n 819 rfl rfl rfl ?_
    refine eW_iconst 820 rfl rfl ?_
    refine eW_laloadx 821 rfl rfl (Int32.ofInt x2).toInt64 (Nat.ble_eq_true_of_le (by omega)) (ew.trans e9) (by omega) (by omega) (by unfold i32; omega) e90 ?_
    refine eW_iload 823 rfl rfl rfl ?_
    rcases hb x2 rfl with e01 | e01 <;> subst e01
    · refine eW_if_eq 826 rfl rfl (by unfold i32; omega) (fun c1 => ?_) (fun c1 => absurd c1 (by omega))
      refine eW_lconst 831 rfl rfl 0 rfl ?_
      refine eW_lcmpE 832 rfl rfl (by decide) ?_
      refine eW_if_eq 835 rfl rfl (by unfold i32; omega) (fun _ => ?_) (fun c9 => absurd rfl c9)
      refine eW_goto rfl ?_
      refine eW_reU [(0, .retAddr 0), (1, .ref 0), (2, .ref 63), (3, .ref 73), (4, .ref 74), (5, vI i)] rfl rfl (List.forall_mem_cons.mpr ⟨rfl, List.forall_mem_cons.mpr ⟨rfl, List.forall_mem_cons.mpr ⟨rfl, List.forall_mem_cons.mpr ⟨rfl, List.forall_mem_cons.mpr ⟨rfl, List.forall_mem_cons.mpr ⟨rfl, fun _ h => absurd h List.not_mem_nil⟩⟩⟩⟩⟩⟩) (List.forall_mem_cons.mpr ⟨Or.inr (Or.inl ⟨_, rfl⟩), List.forall_mem_cons.mpr ⟨Or.inr (Or.inl ⟨_, rfl⟩), List.forall_mem_cons.mpr ⟨Or.inl rfl, List.forall_mem_cons.mpr ⟨Or.inl rfl, List.forall_mem_cons.mpr ⟨Or.inl rfl, List.forall_mem_cons.mpr ⟨Or.inl rfl, List.forall_mem_cons.mpr ⟨Or.inl rfl, List.forall_mem_cons.mpr ⟨Or.inl rfl, fun _ h => absurd h List.not_mem_nil⟩⟩⟩⟩⟩⟩⟩⟩) ?_
      exact kk n1 a1 b1 _ hFI
    · refine eW_if_eq 826 rfl rfl (by unfold i32; omega) (fun c1 => absurd c1 (by omega)) (fun c1 => ?_)
      refine eW_lconst 827 rfl rfl 1 rfl ?_
      refine eW_goto rfl ?_
      refine eW_lcmpE 832 rfl rfl (by decide) ?_
      refine eW_if_eq 835 rfl rfl (by unfold i32; omega) (fun _ => ?_) (fun c9 => absurd rfl c9)
      refine eW_goto rfl ?_
      refine eW_reU [(0, .retAddr 0), (1, .ref 0), (2, .ref 63), (3, .ref 73), (4, .ref 74), (5, vI i)] rfl rfl (List.forall_mem_cons.mpr ⟨rfl, List.forall_mem_cons.mpr ⟨rfl, List.forall_mem_cons.mpr ⟨rfl, List.forall_mem_cons.mpr ⟨rfl, List.forall_mem_cons.mpr ⟨rfl, List.forall_mem_cons.mpr ⟨rfl, fun _ h => absurd h List.not_mem_nil⟩⟩⟩⟩⟩⟩) (List.forall_mem_cons.mpr ⟨Or.inr (Or.inl ⟨_, rfl⟩), List.forall_mem_cons.mpr ⟨Or.inr (Or.inl ⟨_, rfl⟩), List.forall_mem_cons.mpr ⟨Or.inl rfl, List.forall_mem_cons.mpr ⟨Or.inl rfl, List.forall_mem_cons.mpr ⟨Or.inl rfl, List.forall_mem_cons.mpr ⟨Or.inl rfl, List.forall_mem_cons.mpr ⟨Or.inl rfl, List.forall_mem_cons.mpr ⟨Or.inl rfl, fun _ h => absurd h List.not_mem_nil⟩⟩⟩⟩⟩⟩⟩⟩) ?_
      exact kk n1 a1 b1 _ hFI
set_option maxRecDepth 20000 in
theorem lc_11 {ox : Nat → Option (Nat × Nat × (Nat → Int32))} {d N n k z : Nat} {h : eHp} {xs : Nat → Int} {i : Int} {P : eR → Prop} (hox : ox 0 = some (0, n, eIA xs)) (hxs : ∀ j, i32 (xs j)) (hi : 0 ≤ i ∧ i + 4 ≤ n) (hn : n ≤ 2048) (hN : 75 ≤ N) {r : Int ⊕ String} {l : List String} {FF : Nat → eHp → Nat → Nat → Prop} (hr : ∀ E, r = .inr E → 1 ≤ lCd l E ∧ lCd l E ≤ 3) (hL : eSp (d + 1) eM_L_next [.ref 0, .ref 73] N h (lR 73 lRow73 lH73 r l FF)) {FI : Nat → Nat → Nat → eHp → Prop} (hM : ∀ N1 g1 h1 k1 z1, FF N1 g1 k1 z1 → (∀ i, i ≠ 73 → h1 i = g1 i) → lRow73 (h1 73) → 75 ≤ N1 ∧ (∃ fs, h1 63 = .inr (11, fs)) ∧ eSp (d + 1) eM_X7_next [.ref 63] N1 h1 (lM r l N1 h1 (FI N1 k1 z1))) (kk : ∀ N1 k1 z1 h1, FI N1 k1 z1 h1 → eWp ox (eEv (d + 1)) eM_L_law (1930, [(0, .retAddr 0), (1, .ref 0), (2, .ref 63), (3, .ref 73), (4, .ref 74), (5, vI i)], [], N1, h1, k + k1, z + z1) P) : eWp ox (eEv (d + 1)) eM_L_law (840, [(0, .retAddr 0), (1, .ref 0), (2, .ref 63), (3, .ref 73), (4, .ref 74), (5, vI i)], [], N, h, k, z) P := by
  refine eW_aload_n 841 rfl rfl rfl ?_
  refine eW_aload_n 842 rfl rfl rfl ?_
  refine eW_callM 845 [.ref 0, .ref 73] [] (eS_callS rfl rfl (Or.inl rfl) rfl) rfl rfl rfl (by simp only [vI, eClL, eClV, List.all_cons, List.all_nil, Bool.and_true, Bool.and_eq_true, Bool.true_and, Nat.ble_eq]; first | done | omega) (lR_M hL) ?_
  intro v1 n1 h1 a1 b1 f1
  obtain ⟨x1, g1, rfl, hF, ho, hw, hx⟩ := f1
  show eWp _ _ _ (845, [(0, .retAddr 0), (1, .ref 0), (2, .ref 63), (3, .ref 73), (4, .ref 74), (5, vI i)], [vI x1], _, h1, _, _) _
  refine eW_istore 847 rfl rfl [(6, vI x1), (0, .retAddr 0), (1, .ref 0), (2, .ref 63), (3, .ref 73), (4, .ref 74), (5, vI i)] rfl rfl ?_
  obtain ⟨hN1, ⟨fs1, e63⟩, hm⟩ := hM _ _ _ _ _ hF ho hw
  refine eW_aload_n 848 rfl rfl rfl ?_
  refine eW_callM 851 [.ref 63] [] (eS_callV rfl rfl rfl (Nat.ble_eq_true_of_le (by omega)) e63 rfl) rfl rfl rfl (by simp only [vI, eClL, eClV, List.all_cons, List.all_nil, Bool.and_true, Bool.and_eq_true, Bool.true_and, Nat.ble_eq]; first | done | omega) (lM_M hm) ?_
  intro v2 n2 h2 a2 b2 f2
  obtain ⟨x2, s2, A2, rfl, rfl, rfl, rfl, hm2, ew, hx2, hFI⟩ := f2
  show eWp _ _ _ (851, [(6, vI x1), (0, .retAddr 0), (1, .ref 0), (2, .ref 63), (3, .ref 73), (4, .ref 74), (5, vI i)], [vI x2], _, h2, _, _) _
  refine eW_istore 853 rfl rfl [(7, vI x2), (6, vI x1), (0, .retAddr 0), (1, .ref 0), (2, .ref 63), (3, .ref 73), (4, .ref 74), (5, vI i)] rfl rfl ?_
  refine eW_aload_n 854 rfl rfl rfl ?_
  refine eW_callM 857 [.ref 63] [] (eS_callV rfl rfl rfl (Nat.ble_eq_true_of_le (by omega)) hm2.1 rfl) rfl rfl rfl (by simp only [vI, eClL, eClV, List.all_cons, List.all_nil, Bool.and_true, Bool.and_eq_true, Bool.true_and, Nat.ble_eq]; first | done | omega) (eRet_M (m_thrown (d := d) hm2 hN1)) ?_
  intro v3 n3 h3 a3 b3 f3
  obtain ⟨rfl, rfl, rfl, rfl, rfl⟩ := f3
  show eWp _ _ _ (857, [(7, vI x2), (6, vI x1), (0, .retAddr 0), (1, .ref 0), (2, .ref 63), (3, .ref 73), (4, .ref 74), (5, vI i)], [vI (s2 7)], _, _, _, _) _
  refine eW_iload 859 rfl rfl rfl ?_
  cases r with
  | inr E =>
    have hE := hr E rfl
    have hx1 : x1 = lCd l E := hx
    have hx3 : s2 7 = lCd l E := hx2
    refine eW_icmp_eqE rfl (hx3.trans hx1.symm) ?_
    refine eW_iload 866 rfl rfl rfl ?_
    refine eW_if_ne 869 rfl rfl (by unfold i32; omega) (fun _ => ?_) (fun c9 => absurd (show x1 ≠ 0 by omega) c9)
    refine eW_goto rfl ?_
    refine eW_reU [(0, .retAddr 0), (1, .ref 0), (2, .ref 63), (3, .ref 73), (4, .ref 74), (5, vI i)] rfl rfl (List.forall_mem_cons.mpr ⟨rfl, List.forall_mem_cons.mpr ⟨rfl, List.forall_mem_cons.mpr ⟨rfl, List.forall_mem_cons.mpr ⟨rfl, List.forall_mem_cons.mpr ⟨rfl, List.forall_mem_cons.mpr ⟨rfl, fun _ h => absurd h List.not_mem_nil⟩⟩⟩⟩⟩⟩) (List.forall_mem_cons.mpr ⟨Or.inr (Or.inl ⟨_, rfl⟩), List.forall_mem_cons.mpr ⟨Or.inr (Or.inl ⟨_, rfl⟩), List.forall_mem_cons.mpr ⟨Or.inl rfl, List.forall_mem_cons.mpr ⟨Or.inl rfl, List.forall_mem_cons.mpr ⟨Or.inl rfl, List.forall_mem_cons.mpr ⟨Or.inl rfl, List.forall_mem_cons.mpr ⟨Or.inl rfl, List.forall_mem_cons.mpr ⟨Or.inl rfl, fun _ h => absurd h List.not_mem_nil⟩⟩⟩⟩⟩⟩⟩⟩) ?_
    exact kk n1 a1 b1 _ hFI
  | inl a =>
    obtain ⟨hx1, F9, e9, e90⟩ := hx
    obtain ⟨hx3, hxa⟩ := hx2
    subst hx1; subst hxa
    refine eW_icmp_eqE rfl hx3 ?_
    refine eW_iload 866 rfl rfl rfl ?_
    refine eW_if_ne 869 rfl rfl (by unfold i32; omega) (fun c9 => absurd rfl c9) (fun _ => ?_)
    refine eW_aload_n 870 rfl rfl rfl ?_
    refine eW_iconst 871 rfl rfl ?_
    refine eW_laloadx 872 rfl rfl (Int32.ofInt x2).toInt64 (Nat.ble_eq_true_of_le (by omega)) (ew.trans e9) (by omega) (by omega) (by unfold i32; omega) e90 ?_
    refine eW_iload 874 rfl rfl rfl ?_
    refine eW_i2lx 875 rfl rfl ?_
    refine eW_lcmpE 876 rfl rfl rfl ?_
    refine eW_if_eq 879 rfl rfl (by unfold i32; omega) (fun _ => ?_) (fun c9 => absurd rfl c9)
    refine eW_goto rfl ?_
    refine eW_reU [(0, .retAddr 0), (1, .ref 0), (2, .ref 63), (3, .ref 73), (4, .ref 74), (5, vI i)] rfl rfl (List.forall_mem_cons.mpr ⟨rfl, List.forall_mem_cons.mpr ⟨rfl, List.forall_mem_cons.mpr ⟨rfl, List.forall_mem_cons.mpr ⟨rfl, List.forall_mem_cons.mpr ⟨rfl, List.forall_mem_cons.mpr ⟨rfl, fun _ h => absurd h List.not_mem_nil⟩⟩⟩⟩⟩⟩) (List.forall_mem_cons.mpr ⟨Or.inr (Or.inl ⟨_, rfl⟩), List.forall_mem_cons.mpr ⟨Or.inr (Or.inl ⟨_, rfl⟩), List.forall_mem_cons.mpr ⟨Or.inl rfl, List.forall_mem_cons.mpr ⟨Or.inl rfl, List.forall_mem_cons.mpr ⟨Or.inl rfl, List.forall_mem_cons.mpr ⟨Or.inl rfl, List.forall_mem_cons.mpr ⟨Or.inl rfl, List.forall_mem_cons.mpr ⟨Or.inl rfl, fun _ h => absurd h List.not_mem_nil⟩⟩⟩⟩⟩⟩⟩⟩) ?_
    exact kk n1 a1 b1 _ hFI
set_option maxRecDepth 20000 in
theorem lc_12 {ox : Nat → Option (Nat × Nat × (Nat → Int32))} {d N n k z : Nat} {h : eHp} {xs : Nat → Int} {i : Int} {P : eR → Prop} (hox : ox 0 = some (0, n, eIA xs)) (hxs : ∀ j, i32 (xs j)) (hi : 0 ≤ i ∧ i + 4 ≤ n) (hn : n ≤ 2048) (hN : 75 ≤ N) {fs : List Value} (h0 : h 0 = .inr (10, fs)) {v : Int} {FF : Nat → eHp → Nat → Nat → Prop} (hL : eSp (d + 1) eM_X6_turn [.ref 0] N h (lB v N FF)) {FI : Nat → Nat → Nat → eHp → Prop} (hM : ∀ N1 h1 k1 z1, FF N1 h1 k1 z1 → 75 ≤ N1 ∧ (∃ fs, h1 63 = .inr (11, fs)) ∧ eSp (d + 1) eM_X7_turn [.ref 63] N1 h1 (lNq v N1 (FI N1 k1 z1))) (kk : ∀ N1 k1 z1 h1, FI N1 k1 z1 h1 → eWp ox (eEv (d + 1)) eM_L_law (1930, [(0, .retAddr 0), (1, .ref 0), (2, .ref 63), (3, .ref 73), (4, .ref 74), (5, vI i)], [], N1, h1, k + k1, z + z1) P) : eWp ox (eEv (d + 1)) eM_L_law (884, [(0, .retAddr 0), (1, .ref 0), (2, .ref 63), (3, .ref 73), (4, .ref 74), (5, vI i)], [], N, h, k, z) P := by
  refine eW_aload_n 885 rfl rfl rfl ?_
  refine eW_callM 888 [.ref 0] [] (eS_callV rfl rfl rfl (Nat.ble_eq_true_of_le (by omega)) h0 rfl) rfl rfl rfl (by simp only [vI, eClL, eClV, List.all_cons, List.all_nil, Bool.and_true, Bool.and_eq_true, Bool.true_and, Nat.ble_eq]; first | done | omega) (lB_M hL) ?_
  intro v1 n1 h1 a1 b1 f1
  obtain ⟨rfl, hle, hF⟩ := f1
  show eWp _ _ _ (888, [(0, .retAddr 0), (1, .ref 0), (2, .ref 63), (3, .ref 73), (4, .ref 74), (5, vI i)], [vI v], _, h1, _, _) _
  obtain ⟨hN1, ⟨fs1, e63⟩, hm⟩ := hM _ _ _ _ hF
  refine eW_aload_n 889 rfl rfl rfl ?_
  refine eW_callM 892 [.ref 63] [vI v] (eS_callV rfl rfl rfl (Nat.ble_eq_true_of_le (by omega)) e63 rfl) rfl rfl rfl (by simp only [vI, eClL, eClV, List.all_cons, List.all_nil, Bool.and_true, Bool.and_eq_true, Bool.true_and, Nat.ble_eq]; first | done | omega) (lNq_M hm) ?_
  intro v2 n2 h2 a2 b2 f2
  obtain ⟨rfl, rfl, rfl, rfl, hFI⟩ := f2
  show eWp _ _ _ (892, [(0, .retAddr 0), (1, .ref 0), (2, .ref 63), (3, .ref 73), (4, .ref 74), (5, vI i)], [vI v, vI v], _, h2, _, _) _
  refine eW_icmp_eqE rfl rfl ?_
  exact kk n1 a1 b1 _ hFI
set_option maxRecDepth 20000 in
theorem lc_13 {ox : Nat → Option (Nat × Nat × (Nat → Int32))} {d N n k z : Nat} {h : eHp} {xs : Nat → Int} {i : Int} {P : eR → Prop} (hox : ox 0 = some (0, n, eIA xs)) (hxs : ∀ j, i32 (xs j)) (hi : 0 ≤ i ∧ i + 4 ≤ n) (hn : n ≤ 2048) (hN : 75 ≤ N) {r : Int ⊕ String} {l : List String} {FF : Nat → eHp → Nat → Nat → Prop} (hr : ∀ E, r = .inr E → 1 ≤ lCd l E ∧ lCd l E ≤ 3) (hL : eSp (d + 1) eM_L_monkOf [.ref 0, vI (xs (i + 1).toNat), vI (xs (i + 2).toNat), .ref 73] N h (lR 73 lRow73 lH73 r l FF)) {FI : Nat → Nat → Nat → eHp → Prop} (hM : ∀ N1 g1 h1 k1 z1, FF N1 g1 k1 z1 → (∀ i, i ≠ 73 → h1 i = g1 i) → lRow73 (h1 73) → 75 ≤ N1 ∧ (∃ fs, h1 63 = .inr (11, fs)) ∧ eSp (d + 1) eM_X7_monkOf [.ref 63, vI (xs (i + 1).toNat), vI (xs (i + 2).toNat)] N1 h1 (lM r l N1 h1 (FI N1 k1 z1))) (kk : ∀ N1 k1 z1 h1, FI N1 k1 z1 h1 → eWp ox (eEv (d + 1)) eM_L_law (1930, [(0, .retAddr 0), (1, .ref 0), (2, .ref 63), (3, .ref 73), (4, .ref 74), (5, vI i)], [], N1, h1, k + k1, z + z1) P) : eWp ox (eEv (d + 1)) eM_L_law (897, [(0, .retAddr 0), (1, .ref 0), (2, .ref 63), (3, .ref 73), (4, .ref 74), (5, vI i)], [], N, h, k, z) P := by
  refine eW_aload_n 898 rfl rfl rfl ?_
  refine eW_aload_n_out 899 rfl rfl rfl ?_
  refine eW_iload 901 rfl rfl rfl ?_
  refine eW_iconst 902 rfl rfl ?_
  refine eW_iadd 903 rfl rfl ?_
  refine eW_iaload_o 904 rfl rfl (xs (i + 1).toNat) hox (by omega) (by omega) (by unfold i32; omega) rfl ?_
  refine eW_aload_n_out 905 rfl rfl rfl ?_
  refine eW_iload 907 rfl rfl rfl ?_
  refine eW_iconst 908 rfl rfl ?_
  refine eW_iadd 909 rfl rfl ?_
  refine eW_iaload_o 910 rfl rfl (xs (i + 2).toNat) hox (by omega) (by omega) (by unfold i32; omega) rfl ?_
  refine eW_aload_n 911 rfl rfl rfl ?_
  refine eW_callM 914 [.ref 0, vI (xs (i + 1).toNat), vI (xs (i + 2).toNat), .ref 73] [] (eS_callS rfl rfl (Or.inl rfl) rfl) rfl rfl rfl (by simp only [vI, eClL, eClV, List.all_cons, List.all_nil, Bool.and_true, Bool.and_eq_true, Bool.true_and, Nat.ble_eq]; first | done | omega) (lR_M hL) ?_
  intro v1 n1 h1 a1 b1 f1
  obtain ⟨x1, g1, rfl, hF, ho, hw, hx⟩ := f1
  show eWp _ _ _ (914, [(0, .retAddr 0), (1, .ref 0), (2, .ref 63), (3, .ref 73), (4, .ref 74), (5, vI i)], [vI x1], _, h1, _, _) _
  refine eW_istore 916 rfl rfl [(6, vI x1), (0, .retAddr 0), (1, .ref 0), (2, .ref 63), (3, .ref 73), (4, .ref 74), (5, vI i)] rfl rfl ?_
  obtain ⟨hN1, ⟨fs1, e63⟩, hm⟩ := hM _ _ _ _ _ hF ho hw
  refine eW_aload_n 917 rfl rfl rfl ?_
  refine eW_aload_n_out 918 rfl rfl rfl ?_
  refine eW_iload 920 rfl rfl rfl ?_
  refine eW_iconst 921 rfl rfl ?_
  refine eW_iadd 922 rfl rfl ?_
  refine eW_iaload_o 923 rfl rfl (xs (i + 1).toNat) hox (by omega) (by omega) (by unfold i32; omega) rfl ?_
  refine eW_aload_n_out 924 rfl rfl rfl ?_
  refine eW_iload 926 rfl rfl rfl ?_
  refine eW_iconst 927 rfl rfl ?_
  refine eW_iadd 928 rfl rfl ?_
  refine eW_iaload_o 929 rfl rfl (xs (i + 2).toNat) hox (by omega) (by omega) (by unfold i32; omega) rfl ?_
  refine eW_callM 932 [.ref 63, vI (xs (i + 1).toNat), vI (xs (i + 2).toNat)] [] (eS_callV rfl rfl rfl (Nat.ble_eq_true_of_le (by omega)) e63 rfl) rfl rfl rfl (by simp only [vI, eClL, eClV, List.all_cons, List.all_nil, Bool.and_true, Bool.and_eq_true, Bool.true_and, Nat.ble_eq]; first | done | omega) (lM_M hm) ?_
  intro v2 n2 h2 a2 b2 f2
  obtain ⟨x2, s2, A2, rfl, rfl, rfl, rfl, hm2, ew, hx2, hFI⟩ := f2
  show eWp _ _ _ (932, [(6, vI x1), (0, .retAddr 0), (1, .ref 0), (2, .ref 63), (3, .ref 73), (4, .ref 74), (5, vI i)], [vI x2], _, h2, _, _) _
  refine eW_istore 934 rfl rfl [(7, vI x2), (6, vI x1), (0, .retAddr 0), (1, .ref 0), (2, .ref 63), (3, .ref 73), (4, .ref 74), (5, vI i)] rfl rfl ?_
  refine eW_aload_n 935 rfl rfl rfl ?_
  refine eW_callM 938 [.ref 63] [] (eS_callV rfl rfl rfl (Nat.ble_eq_true_of_le (by omega)) hm2.1 rfl) rfl rfl rfl (by simp only [vI, eClL, eClV, List.all_cons, List.all_nil, Bool.and_true, Bool.and_eq_true, Bool.true_and, Nat.ble_eq]; first | done | omega) (eRet_M (m_thrown (d := d) hm2 hN1)) ?_
  intro v3 n3 h3 a3 b3 f3
  obtain ⟨rfl, rfl, rfl, rfl, rfl⟩ := f3
  show eWp _ _ _ (938, [(7, vI x2), (6, vI x1), (0, .retAddr 0), (1, .ref 0), (2, .ref 63), (3, .ref 73), (4, .ref 74), (5, vI i)], [vI (s2 7)], _, _, _, _) _
  refine eW_iload 940 rfl rfl rfl ?_
  cases r with
  | inr E =>
    have hE := hr E rfl
    have hx1 : x1 = lCd l E := hx
    have hx3 : s2 7 = lCd l E := hx2
    refine eW_icmp_eqE rfl (hx3.trans hx1.symm) ?_
    refine eW_iload 947 rfl rfl rfl ?_
    refine eW_if_ne 950 rfl rfl (by unfold i32; omega) (fun _ => ?_) (fun c9 => absurd (show x1 ≠ 0 by omega) c9)
    refine eW_goto rfl ?_
    refine eW_reU [(0, .retAddr 0), (1, .ref 0), (2, .ref 63), (3, .ref 73), (4, .ref 74), (5, vI i)] rfl rfl (List.forall_mem_cons.mpr ⟨rfl, List.forall_mem_cons.mpr ⟨rfl, List.forall_mem_cons.mpr ⟨rfl, List.forall_mem_cons.mpr ⟨rfl, List.forall_mem_cons.mpr ⟨rfl, List.forall_mem_cons.mpr ⟨rfl, fun _ h => absurd h List.not_mem_nil⟩⟩⟩⟩⟩⟩) (List.forall_mem_cons.mpr ⟨Or.inr (Or.inl ⟨_, rfl⟩), List.forall_mem_cons.mpr ⟨Or.inr (Or.inl ⟨_, rfl⟩), List.forall_mem_cons.mpr ⟨Or.inl rfl, List.forall_mem_cons.mpr ⟨Or.inl rfl, List.forall_mem_cons.mpr ⟨Or.inl rfl, List.forall_mem_cons.mpr ⟨Or.inl rfl, List.forall_mem_cons.mpr ⟨Or.inl rfl, List.forall_mem_cons.mpr ⟨Or.inl rfl, fun _ h => absurd h List.not_mem_nil⟩⟩⟩⟩⟩⟩⟩⟩) ?_
    exact kk n1 a1 b1 _ hFI
  | inl a =>
    obtain ⟨hx1, F9, e9, e90⟩ := hx
    obtain ⟨hx3, hxa⟩ := hx2
    subst hx1; subst hxa
    refine eW_icmp_eqE rfl hx3 ?_
    refine eW_iload 947 rfl rfl rfl ?_
    refine eW_if_ne 950 rfl rfl (by unfold i32; omega) (fun c9 => absurd rfl c9) (fun _ => ?_)
    refine eW_aload_n 951 rfl rfl rfl ?_
    refine eW_iconst 952 rfl rfl ?_
    refine eW_laloadx 953 rfl rfl (Int32.ofInt x2).toInt64 (Nat.ble_eq_true_of_le (by omega)) (ew.trans e9) (by omega) (by omega) (by unfold i32; omega) e90 ?_
    refine eW_iload 955 rfl rfl rfl ?_
    refine eW_i2lx 956 rfl rfl ?_
    refine eW_lcmpE 957 rfl rfl rfl ?_
    refine eW_if_eq 960 rfl rfl (by unfold i32; omega) (fun _ => ?_) (fun c9 => absurd rfl c9)
    refine eW_goto rfl ?_
    refine eW_reU [(0, .retAddr 0), (1, .ref 0), (2, .ref 63), (3, .ref 73), (4, .ref 74), (5, vI i)] rfl rfl (List.forall_mem_cons.mpr ⟨rfl, List.forall_mem_cons.mpr ⟨rfl, List.forall_mem_cons.mpr ⟨rfl, List.forall_mem_cons.mpr ⟨rfl, List.forall_mem_cons.mpr ⟨rfl, List.forall_mem_cons.mpr ⟨rfl, fun _ h => absurd h List.not_mem_nil⟩⟩⟩⟩⟩⟩) (List.forall_mem_cons.mpr ⟨Or.inr (Or.inl ⟨_, rfl⟩), List.forall_mem_cons.mpr ⟨Or.inr (Or.inl ⟨_, rfl⟩), List.forall_mem_cons.mpr ⟨Or.inl rfl, List.forall_mem_cons.mpr ⟨Or.inl rfl, List.forall_mem_cons.mpr ⟨Or.inl rfl, List.forall_mem_cons.mpr ⟨Or.inl rfl, List.forall_mem_cons.mpr ⟨Or.inl rfl, List.forall_mem_cons.mpr ⟨Or.inl rfl, fun _ h => absurd h List.not_mem_nil⟩⟩⟩⟩⟩⟩⟩⟩) ?_
    exact kk n1 a1 b1 _ hFI
set_option maxRecDepth 20000 in
theorem lc_14_0 {ox : Nat → Option (Nat × Nat × (Nat → Int32))} {d N n k z : Nat} {h : eHp} {xs : Nat → Int} {i : Int} {P : eR → Prop} (hox : ox 0 = some (0, n, eIA xs)) (hxs : ∀ j, i32 (xs j)) (hi : 0 ≤ i ∧ i + 4 ≤ n) (hn : n ≤ 2048) (hN : 75 ≤ N) {r : Int ⊕ String} {l : List String} {FF : Nat → eHp → Nat → Nat → Prop} (hr : ∀ E, r = .inr E → 1 ≤ lCd l E ∧ lCd l E ≤ 3) (hz : xs (i + 2).toNat = 0) (hL : eSp (d + 1) eM_L_value [.ref 0, vI (xs (i + 1).toNat), vI 0, .ref 73] N h (lR 73 lRow73 lH73 r l FF)) {FI : Nat → Nat → Nat → eHp → Prop} (hM : ∀ N1 g1 h1 k1 z1, FF N1 g1 k1 z1 → (∀ i, i ≠ 73 → h1 i = g1 i) → lRow73 (h1 73) → 75 ≤ N1 ∧ (∃ fs, h1 63 = .inr (11, fs)) ∧ eSp (d + 1) eM_X7_value [.ref 63, vI (xs (i + 1).toNat), vI 0] N1 h1 (lM r l N1 h1 (FI N1 k1 z1))) (kk : ∀ N1 k1 z1 h1, FI N1 k1 z1 h1 → eWp ox (eEv (d + 1)) eM_L_law (1930, [(0, .retAddr 0), (1, .ref 0), (2, .ref 63), (3, .ref 73), (4, .ref 74), (5, vI i)], [], N1, h1, k + k1, z + z1) P) : eWp ox (eEv (d + 1)) eM_L_law (965, [(0, .retAddr 0), (1, .ref 0), (2, .ref 63), (3, .ref 73), (4, .ref 74), (5, vI i)], [], N, h, k, z) P := by
  refine eW_aload_n 966 rfl rfl rfl ?_
  refine eW_aload_n_out 967 rfl rfl rfl ?_
  refine eW_iload 969 rfl rfl rfl ?_
  refine eW_iconst 970 rfl rfl ?_
  refine eW_iadd 971 rfl rfl ?_
  refine eW_iaload_o 972 rfl rfl (xs (i + 1).toNat) hox (by omega) (by omega) (by unfold i32; omega) rfl ?_
  refine eW_aload_n_out 973 rfl rfl rfl ?_
  refine eW_iload 975 rfl rfl rfl ?_
  refine eW_iconst 976 rfl rfl ?_
  refine eW_iadd 977 rfl rfl ?_
  refine eW_iaload_o 978 rfl rfl (xs (i + 2).toNat) hox (by omega) (by omega) (by unfold i32; omega) rfl ?_
  refine eW_if_eq 981 rfl rfl (hxs _) (fun _ => ?_) (fun c9 => absurd hz c9)
  refine eW_iconst 986 rfl rfl ?_
  refine eW_aload_n 987 rfl rfl rfl ?_
  refine eW_callM 990 [.ref 0, vI (xs (i + 1).toNat), vI 0, .ref 73] [] (eS_callS rfl rfl (Or.inl rfl) rfl) rfl rfl rfl (by simp only [vI, eClL, eClV, List.all_cons, List.all_nil, Bool.and_true, Bool.and_eq_true, Bool.true_and, Nat.ble_eq]; first | done | omega) (lR_M hL) ?_
  intro v1 n1 h1 a1 b1 f1
  obtain ⟨x1, g1, rfl, hF, ho, hw, hx⟩ := f1
  show eWp _ _ _ (990, [(0, .retAddr 0), (1, .ref 0), (2, .ref 63), (3, .ref 73), (4, .ref 74), (5, vI i)], [vI x1], _, h1, _, _) _
  refine eW_istore 992 rfl rfl [(6, vI x1), (0, .retAddr 0), (1, .ref 0), (2, .ref 63), (3, .ref 73), (4, .ref 74), (5, vI i)] rfl rfl ?_
  obtain ⟨hN1, ⟨fs1, e63⟩, hm⟩ := hM _ _ _ _ _ hF ho hw
  refine eW_aload_n 993 rfl rfl rfl ?_
  refine eW_aload_n_out 994 rfl rfl rfl ?_
  refine eW_iload 996 rfl rfl rfl ?_
  refine eW_iconst 997 rfl rfl ?_
  refine eW_iadd 998 rfl rfl ?_
  refine eW_iaload_o 999 rfl rfl (xs (i + 1).toNat) hox (by omega) (by omega) (by unfold i32; omega) rfl ?_
  refine eW_aload_n_out 1000 rfl rfl rfl ?_
  refine eW_iload 1002 rfl rfl rfl ?_
  refine eW_iconst 1003 rfl rfl ?_
  refine eW_iadd 1004 rfl rfl ?_
  refine eW_iaload_o 1005 rfl rfl (xs (i + 2).toNat) hox (by omega) (by omega) (by unfold i32; omega) rfl ?_
  refine eW_if_eq 1008 rfl rfl (hxs _) (fun _ => ?_) (fun c9 => absurd hz c9)
  refine eW_iconst 1013 rfl rfl ?_
  refine eW_callM 1016 [.ref 63, vI (xs (i + 1).toNat), vI 0] [] (eS_callV rfl rfl rfl (Nat.ble_eq_true_of_le (by omega)) e63 rfl) rfl rfl rfl (by simp only [vI, eClL, eClV, List.all_cons, List.all_nil, Bool.and_true, Bool.and_eq_true, Bool.true_and, Nat.ble_eq]; first | done | omega) (lM_M hm) ?_
  intro v2 n2 h2 a2 b2 f2
  obtain ⟨x2, s2, A2, rfl, rfl, rfl, rfl, hm2, ew, hx2, hFI⟩ := f2
  show eWp _ _ _ (1016, [(6, vI x1), (0, .retAddr 0), (1, .ref 0), (2, .ref 63), (3, .ref 73), (4, .ref 74), (5, vI i)], [vI x2], _, h2, _, _) _
  refine eW_istore 1018 rfl rfl [(7, vI x2), (6, vI x1), (0, .retAddr 0), (1, .ref 0), (2, .ref 63), (3, .ref 73), (4, .ref 74), (5, vI i)] rfl rfl ?_
  refine eW_aload_n 1019 rfl rfl rfl ?_
  refine eW_callM 1022 [.ref 63] [] (eS_callV rfl rfl rfl (Nat.ble_eq_true_of_le (by omega)) hm2.1 rfl) rfl rfl rfl (by simp only [vI, eClL, eClV, List.all_cons, List.all_nil, Bool.and_true, Bool.and_eq_true, Bool.true_and, Nat.ble_eq]; first | done | omega) (eRet_M (m_thrown (d := d) hm2 hN1)) ?_
  intro v3 n3 h3 a3 b3 f3
  obtain ⟨rfl, rfl, rfl, rfl, rfl⟩ := f3
  show eWp _ _ _ (1022, [(7, vI x2), (6, vI x1), (0, .retAddr 0), (1, .ref 0), (2, .ref 63), (3, .ref 73), (4, .ref 74), (5, vI i)], [vI (s2 7)], _, _, _, _) _
  refine eW_iload 1024 rfl rfl rfl ?_
  cases r with
  | inr E =>
    have hE := hr E rfl
    have hx1 : x1 = lCd l E := hx
    have hx3 : s2 7 = lCd l E := hx2
    refine eW_icmp_eqE rfl (hx3.trans hx1.symm) ?_
    refine eW_iload 1031 rfl rfl rfl ?_
    refine eW_if_ne 1034 rfl rfl (by unfold i32; omega) (fun _ => ?_) (fun c9 => absurd (show x1 ≠ 0 by omega) c9)
    refine eW_goto rfl ?_
    refine eW_reU [(0, .retAddr 0), (1, .ref 0), (2, .ref 63), (3, .ref 73), (4, .ref 74), (5, vI i)] rfl rfl (List.forall_mem_cons.mpr ⟨rfl, List.forall_mem_cons.mpr ⟨rfl, List.forall_mem_cons.mpr ⟨rfl, List.forall_mem_cons.mpr ⟨rfl, List.forall_mem_cons.mpr ⟨rfl, List.forall_mem_cons.mpr ⟨rfl, fun _ h => absurd h List.not_mem_nil⟩⟩⟩⟩⟩⟩) (List.forall_mem_cons.mpr ⟨Or.inr (Or.inl ⟨_, rfl⟩), List.forall_mem_cons.mpr ⟨Or.inr (Or.inl ⟨_, rfl⟩), List.forall_mem_cons.mpr ⟨Or.inl rfl, List.forall_mem_cons.mpr ⟨Or.inl rfl, List.forall_mem_cons.mpr ⟨Or.inl rfl, List.forall_mem_cons.mpr ⟨Or.inl rfl, List.forall_mem_cons.mpr ⟨Or.inl rfl, List.forall_mem_cons.mpr ⟨Or.inl rfl, fun _ h => absurd h List.not_mem_nil⟩⟩⟩⟩⟩⟩⟩⟩) ?_
    exact kk n1 a1 b1 _ hFI
  | inl a =>
    obtain ⟨hx1, F9, e9, e90⟩ := hx
    obtain ⟨hx3, hxa⟩ := hx2
    subst hx1; subst hxa
    refine eW_icmp_eqE rfl hx3 ?_
    refine eW_iload 1031 rfl rfl rfl ?_
    refine eW_if_ne 1034 rfl rfl (by unfold i32; omega) (fun c9 => absurd rfl c9) (fun _ => ?_)
    refine eW_aload_n 1035 rfl rfl rfl ?_
    refine eW_iconst 1036 rfl rfl ?_
    refine eW_laloadx 1037 rfl rfl (Int32.ofInt x2).toInt64 (Nat.ble_eq_true_of_le (by omega)) (ew.trans e9) (by omega) (by omega) (by unfold i32; omega) e90 ?_
    refine eW_iload 1039 rfl rfl rfl ?_
    refine eW_i2lx 1040 rfl rfl ?_
    refine eW_lcmpE 1041 rfl rfl rfl ?_
    refine eW_if_eq 1044 rfl rfl (by unfold i32; omega) (fun _ => ?_) (fun c9 => absurd rfl c9)
    refine eW_goto rfl ?_
    refine eW_reU [(0, .retAddr 0), (1, .ref 0), (2, .ref 63), (3, .ref 73), (4, .ref 74), (5, vI i)] rfl rfl (List.forall_mem_cons.mpr ⟨rfl, List.forall_mem_cons.mpr ⟨rfl, List.forall_mem_cons.mpr ⟨rfl, List.forall_mem_cons.mpr ⟨rfl, List.forall_mem_cons.mpr ⟨rfl, List.forall_mem_cons.mpr ⟨rfl, fun _ h => absurd h List.not_mem_nil⟩⟩⟩⟩⟩⟩) (List.forall_mem_cons.mpr ⟨Or.inr (Or.inl ⟨_, rfl⟩), List.forall_mem_cons.mpr ⟨Or.inr (Or.inl ⟨_, rfl⟩), List.forall_mem_cons.mpr ⟨Or.inl rfl, List.forall_mem_cons.mpr ⟨Or.inl rfl, List.forall_mem_cons.mpr ⟨Or.inl rfl, List.forall_mem_cons.mpr ⟨Or.inl rfl, List.forall_mem_cons.mpr ⟨Or.inl rfl, List.forall_mem_cons.mpr ⟨Or.inl rfl, fun _ h => absurd h List.not_mem_nil⟩⟩⟩⟩⟩⟩⟩⟩) ?_
    exact kk n1 a1 b1 _ hFI
set_option maxRecDepth 20000 in
theorem lc_14_1 {ox : Nat → Option (Nat × Nat × (Nat → Int32))} {d N n k z : Nat} {h : eHp} {xs : Nat → Int} {i : Int} {P : eR → Prop} (hox : ox 0 = some (0, n, eIA xs)) (hxs : ∀ j, i32 (xs j)) (hi : 0 ≤ i ∧ i + 4 ≤ n) (hn : n ≤ 2048) (hN : 75 ≤ N) {r : Int ⊕ String} {l : List String} {FF : Nat → eHp → Nat → Nat → Prop} (hr : ∀ E, r = .inr E → 1 ≤ lCd l E ∧ lCd l E ≤ 3) (hz : xs (i + 2).toNat ≠ 0) (hL : eSp (d + 1) eM_L_value [.ref 0, vI (xs (i + 1).toNat), vI 1, .ref 73] N h (lR 73 lRow73 lH73 r l FF)) {FI : Nat → Nat → Nat → eHp → Prop} (hM : ∀ N1 g1 h1 k1 z1, FF N1 g1 k1 z1 → (∀ i, i ≠ 73 → h1 i = g1 i) → lRow73 (h1 73) → 75 ≤ N1 ∧ (∃ fs, h1 63 = .inr (11, fs)) ∧ eSp (d + 1) eM_X7_value [.ref 63, vI (xs (i + 1).toNat), vI 1] N1 h1 (lM r l N1 h1 (FI N1 k1 z1))) (kk : ∀ N1 k1 z1 h1, FI N1 k1 z1 h1 → eWp ox (eEv (d + 1)) eM_L_law (1930, [(0, .retAddr 0), (1, .ref 0), (2, .ref 63), (3, .ref 73), (4, .ref 74), (5, vI i)], [], N1, h1, k + k1, z + z1) P) : eWp ox (eEv (d + 1)) eM_L_law (965, [(0, .retAddr 0), (1, .ref 0), (2, .ref 63), (3, .ref 73), (4, .ref 74), (5, vI i)], [], N, h, k, z) P := by
  refine eW_aload_n 966 rfl rfl rfl ?_
  refine eW_aload_n_out 967 rfl rfl rfl ?_
  refine eW_iload 969 rfl rfl rfl ?_
  refine eW_iconst 970 rfl rfl ?_
  refine eW_iadd 971 rfl rfl ?_
  refine eW_iaload_o 972 rfl rfl (xs (i + 1).toNat) hox (by omega) (by omega) (by unfold i32; omega) rfl ?_
  refine eW_aload_n_out 973 rfl rfl rfl ?_
  refine eW_iload 975 rfl rfl rfl ?_
  refine eW_iconst 976 rfl rfl ?_
  refine eW_iadd 977 rfl rfl ?_
  refine eW_iaload_o 978 rfl rfl (xs (i + 2).toNat) hox (by omega) (by omega) (by unfold i32; omega) rfl ?_
  refine eW_if_eq 981 rfl rfl (hxs _) (fun c9 => absurd c9 hz) (fun _ => ?_)
  refine eW_iconst 982 rfl rfl ?_
  refine eW_goto rfl ?_
  refine eW_aload_n 987 rfl rfl rfl ?_
  refine eW_callM 990 [.ref 0, vI (xs (i + 1).toNat), vI 1, .ref 73] [] (eS_callS rfl rfl (Or.inl rfl) rfl) rfl rfl rfl (by simp only [vI, eClL, eClV, List.all_cons, List.all_nil, Bool.and_true, Bool.and_eq_true, Bool.true_and, Nat.ble_eq]; first | done | omega) (lR_M hL) ?_
  intro v1 n1 h1 a1 b1 f1
  obtain ⟨x1, g1, rfl, hF, ho, hw, hx⟩ := f1
  show eWp _ _ _ (990, [(0, .retAddr 0), (1, .ref 0), (2, .ref 63), (3, .ref 73), (4, .ref 74), (5, vI i)], [vI x1], _, h1, _, _) _
  refine eW_istore 992 rfl rfl [(6, vI x1), (0, .retAddr 0), (1, .ref 0), (2, .ref 63), (3, .ref 73), (4, .ref 74), (5, vI i)] rfl rfl ?_
  obtain ⟨hN1, ⟨fs1, e63⟩, hm⟩ := hM _ _ _ _ _ hF ho hw
  refine eW_aload_n 993 rfl rfl rfl ?_
  refine eW_aload_n_out 994 rfl rfl rfl ?_
  refine eW_iload 996 rfl rfl rfl ?_
  refine eW_iconst 997 rfl rfl ?_
  refine eW_iadd 998 rfl rfl ?_
  refine eW_iaload_o 999 rfl rfl (xs (i + 1).toNat) hox (by omega) (by omega) (by unfold i32; omega) rfl ?_
  refine eW_aload_n_out 1000 rfl rfl rfl ?_
  refine eW_iload 1002 rfl rfl rfl ?_
  refine eW_iconst 1003 rfl rfl ?_
  refine eW_iadd 1004 rfl rfl ?_
  refine eW_iaload_o 1005 rfl rfl (xs (i + 2).toNat) hox (by omega) (by omega) (by unfold i32; omega) rfl ?_
  refine eW_if_eq 1008 rfl rfl (hxs _) (fun c9 => absurd c9 hz) (fun _ => ?_)
  refine eW_iconst 1009 rfl rfl ?_
  refine eW_goto rfl ?_
  refine eW_callM 1016 [.ref 63, vI (xs (i + 1).toNat), vI 1] [] (eS_callV rfl rfl rfl (Nat.ble_eq_true_of_le (by omega)) e63 rfl) rfl rfl rfl (by simp only [vI, eClL, eClV, List.all_cons, List.all_nil, Bool.and_true, Bool.and_eq_true, Bool.true_and, Nat.ble_eq]; first | done | omega) (lM_M hm) ?_
  intro v2 n2 h2 a2 b2 f2
  obtain ⟨x2, s2, A2, rfl, rfl, rfl, rfl, hm2, ew, hx2, hFI⟩ := f2
  show eWp _ _ _ (1016, [(6, vI x1), (0, .retAddr 0), (1, .ref 0), (2, .ref 63), (3, .ref 73), (4, .ref 74), (5, vI i)], [vI x2], _, h2, _, _) _
  refine eW_istore 1018 rfl rfl [(7, vI x2), (6, vI x1), (0, .retAddr 0), (1, .ref 0), (2, .ref 63), (3, .ref 73), (4, .ref 74), (5, vI i)] rfl rfl ?_
  refine eW_aload_n 1019 rfl rfl rfl ?_
  refine eW_callM 1022 [.ref 63] [] (eS_callV rfl rfl rfl (Nat.ble_eq_true_of_le (by omega)) hm2.1 rfl) rfl rfl rfl (by simp only [vI, eClL, eClV, List.all_cons, List.all_nil, Bool.and_true, Bool.and_eq_true, Bool.true_and, Nat.ble_eq]; first | done | omega) (eRet_M (m_thrown (d := d) hm2 hN1)) ?_
  intro v3 n3 h3 a3 b3 f3
  obtain ⟨rfl, rfl, rfl, rfl, rfl⟩ := f3
  show eWp _ _ _ (1022, [(7, vI x2), (6, vI x1), (0, .retAddr 0), (1, .ref 0), (2, .ref 63), (3, .ref 73), (4, .ref 74), (5, vI i)], [vI (s2 7)], _, _, _, _) _
  refine eW_iload 1024 rfl rfl rfl ?_
  cases r with
  | inr E =>
    have hE := hr E rfl
    have hx1 : x1 = lCd l E := hx
    have hx3 : s2 7 = lCd l E := hx2
    refine eW_icmp_eqE rfl (hx3.trans hx1.symm) ?_
    refine eW_iload 1031 rfl rfl rfl ?_
    refine eW_if_ne 1034 rfl rfl (by unfold i32; omega) (fun _ => ?_) (fun c9 => absurd (show x1 ≠ 0 by omega) c9)
    refine eW_goto rfl ?_
    refine eW_reU [(0, .retAddr 0), (1, .ref 0), (2, .ref 63), (3, .ref 73), (4, .ref 74), (5, vI i)] rfl rfl (List.forall_mem_cons.mpr ⟨rfl, List.forall_mem_cons.mpr ⟨rfl, List.forall_mem_cons.mpr ⟨rfl, List.forall_mem_cons.mpr ⟨rfl, List.forall_mem_cons.mpr ⟨rfl, List.forall_mem_cons.mpr ⟨rfl, fun _ h => absurd h List.not_mem_nil⟩⟩⟩⟩⟩⟩) (List.forall_mem_cons.mpr ⟨Or.inr (Or.inl ⟨_, rfl⟩), List.forall_mem_cons.mpr ⟨Or.inr (Or.inl ⟨_, rfl⟩), List.forall_mem_cons.mpr ⟨Or.inl rfl, List.forall_mem_cons.mpr ⟨Or.inl rfl, List.forall_mem_cons.mpr ⟨Or.inl rfl, List.forall_mem_cons.mpr ⟨Or.inl rfl, List.forall_mem_cons.mpr ⟨Or.inl rfl, List.forall_mem_cons.mpr ⟨Or.inl rfl, fun _ h => absurd h List.not_mem_nil⟩⟩⟩⟩⟩⟩⟩⟩) ?_
    exact kk n1 a1 b1 _ hFI
  | inl a =>
    obtain ⟨hx1, F9, e9, e90⟩ := hx
    obtain ⟨hx3, hxa⟩ := hx2
    subst hx1; subst hxa
    refine eW_icmp_eqE rfl hx3 ?_
    refine eW_iload 1031 rfl rfl rfl ?_
    refine eW_if_ne 1034 rfl rfl (by unfold i32; omega) (fun c9 => absurd rfl c9) (fun _ => ?_)
    refine eW_aload_n 1035 rfl rfl rfl ?_
    refine eW_iconst 1036 rfl rfl ?_
    refine eW_laloadx 1037 rfl rfl (Int32.ofInt x2).toInt64 (Nat.ble_eq_true_of_le (by omega)) (ew.trans e9) (by omega) (by omega) (by unfold i32; omega) e90 ?_
    refine eW_iload 1039 rfl rfl rfl ?_
    refine eW_i2lx 1040 rfl rfl ?_
    refine eW_lcmpE 1041 rfl rfl rfl ?_
    refine eW_if_eq 1044 rfl rfl (by unfold i32; omega) (fun _ => ?_) (fun c9 => absurd rfl c9)
    refine eW_goto rfl ?_
    refine eW_reU [(0, .retAddr 0), (1, .ref 0), (2, .ref 63), (3, .ref 73), (4, .ref 74), (5, vI i)] rfl rfl (List.forall_mem_cons.mpr ⟨rfl, List.forall_mem_cons.mpr ⟨rfl, List.forall_mem_cons.mpr ⟨rfl, List.forall_mem_cons.mpr ⟨rfl, List.forall_mem_cons.mpr ⟨rfl, List.forall_mem_cons.mpr ⟨rfl, fun _ h => absurd h List.not_mem_nil⟩⟩⟩⟩⟩⟩) (List.forall_mem_cons.mpr ⟨Or.inr (Or.inl ⟨_, rfl⟩), List.forall_mem_cons.mpr ⟨Or.inr (Or.inl ⟨_, rfl⟩), List.forall_mem_cons.mpr ⟨Or.inl rfl, List.forall_mem_cons.mpr ⟨Or.inl rfl, List.forall_mem_cons.mpr ⟨Or.inl rfl, List.forall_mem_cons.mpr ⟨Or.inl rfl, List.forall_mem_cons.mpr ⟨Or.inl rfl, List.forall_mem_cons.mpr ⟨Or.inl rfl, fun _ h => absurd h List.not_mem_nil⟩⟩⟩⟩⟩⟩⟩⟩) ?_
    exact kk n1 a1 b1 _ hFI
set_option maxRecDepth 20000 in
theorem lc_15 {ox : Nat → Option (Nat × Nat × (Nat → Int32))} {d N n k z : Nat} {h : eHp} {xs : Nat → Int} {i : Int} {P : eR → Prop} (hox : ox 0 = some (0, n, eIA xs)) (hxs : ∀ j, i32 (xs j)) (hi : 0 ≤ i ∧ i + 4 ≤ n) (hn : n ≤ 2048) (hN : 75 ≤ N) {r : Int ⊕ String} {l : List String} {FF : Nat → eHp → Nat → Nat → Prop} (hr : ∀ E, r = .inr E → 1 ≤ lCd l E ∧ lCd l E ≤ 3) (hb : ∀ a, r = .inl a → a = 0 ∨ a = 1) (hL : eSp (d + 1) eM_L_lists [.ref 0, vI (xs (i + 1).toNat), vI (xs (i + 2).toNat), .ref 73] N h (lR 73 lRow73 lH73 r l FF)) {FI : Nat → Nat → Nat → eHp → Prop} (hM : ∀ N1 g1 h1 k1 z1, FF N1 g1 k1 z1 → (∀ i, i ≠ 73 → h1 i = g1 i) → lRow73 (h1 73) → 75 ≤ N1 ∧ (∃ fs, h1 63 = .inr (11, fs)) ∧ eSp (d + 1) eM_X7_lists [.ref 63, vI (xs (i + 1).toNat), vI (xs (i + 2).toNat)] N1 h1 (lM r l N1 h1 (FI N1 k1 z1))) (kk : ∀ N1 k1 z1 h1, FI N1 k1 z1 h1 → eWp ox (eEv (d + 1)) eM_L_law (1930, [(0, .retAddr 0), (1, .ref 0), (2, .ref 63), (3, .ref 73), (4, .ref 74), (5, vI i)], [], N1, h1, k + k1, z + z1) P) : eWp ox (eEv (d + 1)) eM_L_law (1049, [(0, .retAddr 0), (1, .ref 0), (2, .ref 63), (3, .ref 73), (4, .ref 74), (5, vI i)], [], N, h, k, z) P := by
  refine eW_aload_n 1050 rfl rfl rfl ?_
  refine eW_aload_n_out 1051 rfl rfl rfl ?_
  refine eW_iload 1053 rfl rfl rfl ?_
  refine eW_iconst 1054 rfl rfl ?_
  refine eW_iadd 1055 rfl rfl ?_
  refine eW_iaload_o 1056 rfl rfl (xs (i + 1).toNat) hox (by omega) (by omega) (by unfold i32; omega) rfl ?_
  refine eW_aload_n_out 1057 rfl rfl rfl ?_
  refine eW_iload 1059 rfl rfl rfl ?_
  refine eW_iconst 1060 rfl rfl ?_
  refine eW_iadd 1061 rfl rfl ?_
  refine eW_iaload_o 1062 rfl rfl (xs (i + 2).toNat) hox (by omega) (by omega) (by unfold i32; omega) rfl ?_
  refine eW_aload_n 1063 rfl rfl rfl ?_
  refine eW_callM 1066 [.ref 0, vI (xs (i + 1).toNat), vI (xs (i + 2).toNat), .ref 73] [] (eS_callS rfl rfl (Or.inl rfl) rfl) rfl rfl rfl (by simp only [vI, eClL, eClV, List.all_cons, List.all_nil, Bool.and_true, Bool.and_eq_true, Bool.true_and, Nat.ble_eq]; first | done | omega) (lR_M hL) ?_
  intro v1 n1 h1 a1 b1 f1
  obtain ⟨x1, g1, rfl, hF, ho, hw, hx⟩ := f1
  show eWp _ _ _ (1066, [(0, .retAddr 0), (1, .ref 0), (2, .ref 63), (3, .ref 73), (4, .ref 74), (5, vI i)], [vI x1], _, h1, _, _) _
  refine eW_istore 1068 rfl rfl [(6, vI x1), (0, .retAddr 0), (1, .ref 0), (2, .ref 63), (3, .ref 73), (4, .ref 74), (5, vI i)] rfl rfl ?_
  obtain ⟨hN1, ⟨fs1, e63⟩, hm⟩ := hM _ _ _ _ _ hF ho hw
  refine eW_aload_n 1069 rfl rfl rfl ?_
  refine eW_aload_n_out 1070 rfl rfl rfl ?_
  refine eW_iload 1072 rfl rfl rfl ?_
  refine eW_iconst 1073 rfl rfl ?_
  refine eW_iadd 1074 rfl rfl ?_
  refine eW_iaload_o 1075 rfl rfl (xs (i + 1).toNat) hox (by omega) (by omega) (by unfold i32; omega) rfl ?_
  refine eW_aload_n_out 1076 rfl rfl rfl ?_
  refine eW_iload 1078 rfl rfl rfl ?_
  refine eW_iconst 1079 rfl rfl ?_
  refine eW_iadd 1080 rfl rfl ?_
  refine eW_iaload_o 1081 rfl rfl (xs (i + 2).toNat) hox (by omega) (by omega) (by unfold i32; omega) rfl ?_
  refine eW_callM 1084 [.ref 63, vI (xs (i + 1).toNat), vI (xs (i + 2).toNat)] [] (eS_callV rfl rfl rfl (Nat.ble_eq_true_of_le (by omega)) e63 rfl) rfl rfl rfl (by simp only [vI, eClL, eClV, List.all_cons, List.all_nil, Bool.and_true, Bool.and_eq_true, Bool.true_and, Nat.ble_eq]; first | done | omega) (lM_M hm) ?_
  intro v2 n2 h2 a2 b2 f2
  obtain ⟨x2, s2, A2, rfl, rfl, rfl, rfl, hm2, ew, hx2, hFI⟩ := f2
  show eWp _ _ _ (1084, [(6, vI x1), (0, .retAddr 0), (1, .ref 0), (2, .ref 63), (3, .ref 73), (4, .ref 74), (5, vI i)], [vI x2], _, h2, _, _) _
  refine eW_istore 1086 rfl rfl [(7, vI x2), (6, vI x1), (0, .retAddr 0), (1, .ref 0), (2, .ref 63), (3, .ref 73), (4, .ref 74), (5, vI i)] rfl rfl ?_
  refine eW_aload_n 1087 rfl rfl rfl ?_
  refine eW_callM 1090 [.ref 63] [] (eS_callV rfl rfl rfl (Nat.ble_eq_true_of_le (by omega)) hm2.1 rfl) rfl rfl rfl (by simp only [vI, eClL, eClV, List.all_cons, List.all_nil, Bool.and_true, Bool.and_eq_true, Bool.true_and, Nat.ble_eq]; first | done | omega) (eRet_M (m_thrown (d := d) hm2 hN1)) ?_
  intro v3 n3 h3 a3 b3 f3
  obtain ⟨rfl, rfl, rfl, rfl, rfl⟩ := f3
  show eWp _ _ _ (1090, [(7, vI x2), (6, vI x1), (0, .retAddr 0), (1, .ref 0), (2, .ref 63), (3, .ref 73), (4, .ref 74), (5, vI i)], [vI (s2 7)], _, _, _, _) _
  refine eW_iload 1092 rfl rfl rfl ?_
  cases r with
  | inr E =>
    have hE := hr E rfl
    have hx1 : x1 = lCd l E := hx
    have hx3 : s2 7 = lCd l E := hx2
    refine eW_icmp_eqE rfl (hx3.trans hx1.symm) ?_
    refine eW_iload 1099 rfl rfl rfl ?_
    refine eW_if_ne 1102 rfl rfl (by unfold i32; omega) (fun _ => ?_) (fun c9 => absurd (show x1 ≠ 0 by omega) c9)
    refine eW_goto rfl ?_
    refine eW_reU [(0, .retAddr 0), (1, .ref 0), (2, .ref 63), (3, .ref 73), (4, .ref 74), (5, vI i)] rfl rfl (List.forall_mem_cons.mpr ⟨rfl, List.forall_mem_cons.mpr ⟨rfl, List.forall_mem_cons.mpr ⟨rfl, List.forall_mem_cons.mpr ⟨rfl, List.forall_mem_cons.mpr ⟨rfl, List.forall_mem_cons.mpr ⟨rfl, fun _ h => absurd h List.not_mem_nil⟩⟩⟩⟩⟩⟩) (List.forall_mem_cons.mpr ⟨Or.inr (Or.inl ⟨_, rfl⟩), List.forall_mem_cons.mpr ⟨Or.inr (Or.inl ⟨_, rfl⟩), List.forall_mem_cons.mpr ⟨Or.inl rfl, List.forall_mem_cons.mpr ⟨Or.inl rfl, List.forall_mem_cons.mpr ⟨Or.inl rfl, List.forall_mem_cons.mpr ⟨Or.inl rfl, List.forall_mem_cons.mpr ⟨Or.inl rfl, List.forall_mem_cons.mpr ⟨Or.inl rfl, fun _ h => absurd h List.not_mem_nil⟩⟩⟩⟩⟩⟩⟩⟩) ?_
    exact kk n1 a1 b1 _ hFI
  | inl a =>
    obtain ⟨hx1, F9, e9, e90⟩ := hx
    obtain ⟨hx3, hxa⟩ := hx2
    subst hx1; subst hxa
    refine eW_icmp_eqE rfl hx3 ?_
    refine eW_iload 1099 rfl rfl rfl ?_
    refine eW_if_ne 1102 rfl rfl (by unfold i32; omega) (fun c9 => absurd rfl c9) (fun _ => ?_)
    refine eW_aload_n 1103 rfl rfl rfl ?_
    refine eW_iconst 1104 rfl rfl ?_
    refine eW_laloadx 1105 rfl rfl (Int32.ofInt x2).toInt64 (Nat.ble_eq_true_of_le (by omega)) (ew.trans e9) (by omega) (by omega) (by unfold i32; omega) e90 ?_
    refine eW_iload 1107 rfl rfl rfl ?_
    rcases hb x2 rfl with e01 | e01 <;> subst e01
    · refine eW_if_eq 1110 rfl rfl (by unfold i32; omega) (fun c1 => ?_) (fun c1 => absurd c1 (by omega))
      refine eW_lconst 1115 rfl rfl 0 rfl ?_
      refine eW_lcmpE 1116 rfl rfl (by decide) ?_
      refine eW_if_eq 1119 rfl rfl (by unfold i32; omega) (fun _ => ?_) (fun c9 => absurd rfl c9)
      refine eW_goto rfl ?_
      refine eW_reU [(0, .retAddr 0), (1, .ref 0), (2, .ref 63), (3, .ref 73), (4, .ref 74), (5, vI i)] rfl rfl (List.forall_mem_cons.mpr ⟨rfl, List.forall_mem_cons.mpr ⟨rfl, List.forall_mem_cons.mpr ⟨rfl, List.forall_mem_cons.mpr ⟨rfl, List.forall_mem_cons.mpr ⟨rfl, List.forall_mem_cons.mpr ⟨rfl, fun _ h => absurd h List.not_mem_nil⟩⟩⟩⟩⟩⟩) (List.forall_mem_cons.mpr ⟨Or.inr (Or.inl ⟨_, rfl⟩), List.forall_mem_cons.mpr ⟨Or.inr (Or.inl ⟨_, rfl⟩), List.forall_mem_cons.mpr ⟨Or.inl rfl, List.forall_mem_cons.mpr ⟨Or.inl rfl, List.forall_mem_cons.mpr ⟨Or.inl rfl, List.forall_mem_cons.mpr ⟨Or.inl rfl, List.forall_mem_cons.mpr ⟨Or.inl rfl, List.forall_mem_cons.mpr ⟨Or.inl rfl, fun _ h => absurd h List.not_mem_nil⟩⟩⟩⟩⟩⟩⟩⟩) ?_
      exact kk n1 a1 b1 _ hFI
    · refine eW_if_eq 1110 rfl rfl (by unfold i32; omega) (fun c1 => absurd c1 (by omega)) (fun c1 => ?_)
      refine eW_lconst 1111 rfl rfl 1 rfl ?_
      refine eW_goto rfl ?_
      refine eW_lcmpE 1116 rfl rfl (by decide) ?_
      refine eW_if_eq 1119 rfl rfl (by unfold i32; omega) (fun _ => ?_) (fun c9 => absurd rfl c9)
      refine eW_goto rfl ?_
      refine eW_reU [(0, .retAddr 0), (1, .ref 0), (2, .ref 63), (3, .ref 73), (4, .ref 74), (5, vI i)] rfl rfl (List.forall_mem_cons.mpr ⟨rfl, List.forall_mem_cons.mpr ⟨rfl, List.forall_mem_cons.mpr ⟨rfl, List.forall_mem_cons.mpr ⟨rfl, List.forall_mem_cons.mpr ⟨rfl, List.forall_mem_cons.mpr ⟨rfl, fun _ h => absurd h List.not_mem_nil⟩⟩⟩⟩⟩⟩) (List.forall_mem_cons.mpr ⟨Or.inr (Or.inl ⟨_, rfl⟩), List.forall_mem_cons.mpr ⟨Or.inr (Or.inl ⟨_, rfl⟩), List.forall_mem_cons.mpr ⟨Or.inl rfl, List.forall_mem_cons.mpr ⟨Or.inl rfl, List.forall_mem_cons.mpr ⟨Or.inl rfl, List.forall_mem_cons.mpr ⟨Or.inl rfl, List.forall_mem_cons.mpr ⟨Or.inl rfl, List.forall_mem_cons.mpr ⟨Or.inl rfl, fun _ h => absurd h List.not_mem_nil⟩⟩⟩⟩⟩⟩⟩⟩) ?_
      exact kk n1 a1 b1 _ hFI
set_option maxRecDepth 20000 in
theorem lc_16 {ox : Nat → Option (Nat × Nat × (Nat → Int32))} {d N n k z : Nat} {h : eHp} {xs : Nat → Int} {i : Int} {P : eR → Prop} (hox : ox 0 = some (0, n, eIA xs)) (hxs : ∀ j, i32 (xs j)) (hi : 0 ≤ i ∧ i + 4 ≤ n) (hn : n ≤ 2048) (hN : 75 ≤ N) {r : Int ⊕ String} {l : List String} {FF : Nat → eHp → Nat → Nat → Prop} (hr : ∀ E, r = .inr E → 1 ≤ lCd l E ∧ lCd l E ≤ 3) (hL : eSp (d + 1) eM_L_listed [.ref 0, vI (xs (i + 1).toNat), .ref 73] N h (lR 73 lRow73 lH73 r l FF)) {FI : Nat → Nat → Nat → eHp → Prop} (hM : ∀ N1 g1 h1 k1 z1, FF N1 g1 k1 z1 → (∀ i, i ≠ 73 → h1 i = g1 i) → lRow73 (h1 73) → 75 ≤ N1 ∧ (∃ fs, h1 63 = .inr (11, fs)) ∧ eSp (d + 1) eM_X7_listed [.ref 63, vI (xs (i + 1).toNat)] N1 h1 (lM r l N1 h1 (FI N1 k1 z1))) (kk : ∀ N1 k1 z1 h1, FI N1 k1 z1 h1 → eWp ox (eEv (d + 1)) eM_L_law (1930, [(0, .retAddr 0), (1, .ref 0), (2, .ref 63), (3, .ref 73), (4, .ref 74), (5, vI i)], [], N1, h1, k + k1, z + z1) P) : eWp ox (eEv (d + 1)) eM_L_law (1124, [(0, .retAddr 0), (1, .ref 0), (2, .ref 63), (3, .ref 73), (4, .ref 74), (5, vI i)], [], N, h, k, z) P := by
  refine eW_aload_n 1125 rfl rfl rfl ?_
  refine eW_aload_n_out 1126 rfl rfl rfl ?_
  refine eW_iload 1128 rfl rfl rfl ?_
  refine eW_iconst 1129 rfl rfl ?_
  refine eW_iadd 1130 rfl rfl ?_
  refine eW_iaload_o 1131 rfl rfl (xs (i + 1).toNat) hox (by omega) (by omega) (by unfold i32; omega) rfl ?_
  refine eW_aload_n 1132 rfl rfl rfl ?_
  refine eW_callM 1135 [.ref 0, vI (xs (i + 1).toNat), .ref 73] [] (eS_callS rfl rfl (Or.inl rfl) rfl) rfl rfl rfl (by simp only [vI, eClL, eClV, List.all_cons, List.all_nil, Bool.and_true, Bool.and_eq_true, Bool.true_and, Nat.ble_eq]; first | done | omega) (lR_M hL) ?_
  intro v1 n1 h1 a1 b1 f1
  obtain ⟨x1, g1, rfl, hF, ho, hw, hx⟩ := f1
  show eWp _ _ _ (1135, [(0, .retAddr 0), (1, .ref 0), (2, .ref 63), (3, .ref 73), (4, .ref 74), (5, vI i)], [vI x1], _, h1, _, _) _
  refine eW_istore 1137 rfl rfl [(6, vI x1), (0, .retAddr 0), (1, .ref 0), (2, .ref 63), (3, .ref 73), (4, .ref 74), (5, vI i)] rfl rfl ?_
  obtain ⟨hN1, ⟨fs1, e63⟩, hm⟩ := hM _ _ _ _ _ hF ho hw
  refine eW_aload_n 1138 rfl rfl rfl ?_
  refine eW_aload_n_out 1139 rfl rfl rfl ?_
  refine eW_iload 1141 rfl rfl rfl ?_
  refine eW_iconst 1142 rfl rfl ?_
  refine eW_iadd 1143 rfl rfl ?_
  refine eW_iaload_o 1144 rfl rfl (xs (i + 1).toNat) hox (by omega) (by omega) (by unfold i32; omega) rfl ?_
  refine eW_callM 1147 [.ref 63, vI (xs (i + 1).toNat)] [] (eS_callV rfl rfl rfl (Nat.ble_eq_true_of_le (by omega)) e63 rfl) rfl rfl rfl (by simp only [vI, eClL, eClV, List.all_cons, List.all_nil, Bool.and_true, Bool.and_eq_true, Bool.true_and, Nat.ble_eq]; first | done | omega) (lM_M hm) ?_
  intro v2 n2 h2 a2 b2 f2
  obtain ⟨x2, s2, A2, rfl, rfl, rfl, rfl, hm2, ew, hx2, hFI⟩ := f2
  show eWp _ _ _ (1147, [(6, vI x1), (0, .retAddr 0), (1, .ref 0), (2, .ref 63), (3, .ref 73), (4, .ref 74), (5, vI i)], [vI x2], _, h2, _, _) _
  refine eW_istore 1149 rfl rfl [(7, vI x2), (6, vI x1), (0, .retAddr 0), (1, .ref 0), (2, .ref 63), (3, .ref 73), (4, .ref 74), (5, vI i)] rfl rfl ?_
  refine eW_aload_n 1150 rfl rfl rfl ?_
  refine eW_callM 1153 [.ref 63] [] (eS_callV rfl rfl rfl (Nat.ble_eq_true_of_le (by omega)) hm2.1 rfl) rfl rfl rfl (by simp only [vI, eClL, eClV, List.all_cons, List.all_nil, Bool.and_true, Bool.and_eq_true, Bool.true_and, Nat.ble_eq]; first | done | omega) (eRet_M (m_thrown (d := d) hm2 hN1)) ?_
  intro v3 n3 h3 a3 b3 f3
  obtain ⟨rfl, rfl, rfl, rfl, rfl⟩ := f3
  show eWp _ _ _ (1153, [(7, vI x2), (6, vI x1), (0, .retAddr 0), (1, .ref 0), (2, .ref 63), (3, .ref 73), (4, .ref 74), (5, vI i)], [vI (s2 7)], _, _, _, _) _
  refine eW_iload 1155 rfl rfl rfl ?_
  cases r with
  | inr E =>
    have hE := hr E rfl
    have hx1 : x1 = lCd l E := hx
    have hx3 : s2 7 = lCd l E := hx2
    refine eW_icmp_eqE rfl (hx3.trans hx1.symm) ?_
    refine eW_iload 1162 rfl rfl rfl ?_
    refine eW_if_ne 1165 rfl rfl (by unfold i32; omega) (fun _ => ?_) (fun c9 => absurd (show x1 ≠ 0 by omega) c9)
    refine eW_goto rfl ?_
    refine eW_reU [(0, .retAddr 0), (1, .ref 0), (2, .ref 63), (3, .ref 73), (4, .ref 74), (5, vI i)] rfl rfl (List.forall_mem_cons.mpr ⟨rfl, List.forall_mem_cons.mpr ⟨rfl, List.forall_mem_cons.mpr ⟨rfl, List.forall_mem_cons.mpr ⟨rfl, List.forall_mem_cons.mpr ⟨rfl, List.forall_mem_cons.mpr ⟨rfl, fun _ h => absurd h List.not_mem_nil⟩⟩⟩⟩⟩⟩) (List.forall_mem_cons.mpr ⟨Or.inr (Or.inl ⟨_, rfl⟩), List.forall_mem_cons.mpr ⟨Or.inr (Or.inl ⟨_, rfl⟩), List.forall_mem_cons.mpr ⟨Or.inl rfl, List.forall_mem_cons.mpr ⟨Or.inl rfl, List.forall_mem_cons.mpr ⟨Or.inl rfl, List.forall_mem_cons.mpr ⟨Or.inl rfl, List.forall_mem_cons.mpr ⟨Or.inl rfl, List.forall_mem_cons.mpr ⟨Or.inl rfl, fun _ h => absurd h List.not_mem_nil⟩⟩⟩⟩⟩⟩⟩⟩) ?_
    exact kk n1 a1 b1 _ hFI
  | inl a =>
    obtain ⟨hx1, F9, e9, e90⟩ := hx
    obtain ⟨hx3, hxa⟩ := hx2
    subst hx1; subst hxa
    refine eW_icmp_eqE rfl hx3 ?_
    refine eW_iload 1162 rfl rfl rfl ?_
    refine eW_if_ne 1165 rfl rfl (by unfold i32; omega) (fun c9 => absurd rfl c9) (fun _ => ?_)
    refine eW_aload_n 1166 rfl rfl rfl ?_
    refine eW_iconst 1167 rfl rfl ?_
    refine eW_laloadx 1168 rfl rfl (Int32.ofInt x2).toInt64 (Nat.ble_eq_true_of_le (by omega)) (ew.trans e9) (by omega) (by omega) (by unfold i32; omega) e90 ?_
    refine eW_iload 1170 rfl rfl rfl ?_
    refine eW_i2lx 1171 rfl rfl ?_
    refine eW_lcmpE 1172 rfl rfl rfl ?_
    refine eW_if_eq 1175 rfl rfl (by unfold i32; omega) (fun _ => ?_) (fun c9 => absurd rfl c9)
    refine eW_goto rfl ?_
    refine eW_reU [(0, .retAddr 0), (1, .ref 0), (2, .ref 63), (3, .ref 73), (4, .ref 74), (5, vI i)] rfl rfl (List.forall_mem_cons.mpr ⟨rfl, List.forall_mem_cons.mpr ⟨rfl, List.forall_mem_cons.mpr ⟨rfl, List.forall_mem_cons.mpr ⟨rfl, List.forall_mem_cons.mpr ⟨rfl, List.forall_mem_cons.mpr ⟨rfl, fun _ h => absurd h List.not_mem_nil⟩⟩⟩⟩⟩⟩) (List.forall_mem_cons.mpr ⟨Or.inr (Or.inl ⟨_, rfl⟩), List.forall_mem_cons.mpr ⟨Or.inr (Or.inl ⟨_, rfl⟩), List.forall_mem_cons.mpr ⟨Or.inl rfl, List.forall_mem_cons.mpr ⟨Or.inl rfl, List.forall_mem_cons.mpr ⟨Or.inl rfl, List.forall_mem_cons.mpr ⟨Or.inl rfl, List.forall_mem_cons.mpr ⟨Or.inl rfl, List.forall_mem_cons.mpr ⟨Or.inl rfl, fun _ h => absurd h List.not_mem_nil⟩⟩⟩⟩⟩⟩⟩⟩) ?_
    exact kk n1 a1 b1 _ hFI
set_option maxRecDepth 20000 in
theorem lc_17 {ox : Nat → Option (Nat × Nat × (Nat → Int32))} {d N n k z : Nat} {h : eHp} {xs : Nat → Int} {i : Int} {P : eR → Prop} (hox : ox 0 = some (0, n, eIA xs)) (hxs : ∀ j, i32 (xs j)) (hi : 0 ≤ i ∧ i + 4 ≤ n) (hn : n ≤ 2048) (hN : 75 ≤ N) {fs : List Value} (h0 : h 0 = .inr (10, fs)) {v : Int} {FF : Nat → eHp → Nat → Nat → Prop} (hL : eSp (d + 1) eM_X6_sum [.ref 0] N h (lB v N FF)) {FI : Nat → Nat → Nat → eHp → Prop} (hM : ∀ N1 h1 k1 z1, FF N1 h1 k1 z1 → 75 ≤ N1 ∧ (∃ fs, h1 63 = .inr (11, fs)) ∧ eSp (d + 1) eM_X7_sum [.ref 63] N1 h1 (lNq v N1 (FI N1 k1 z1))) (kk : ∀ N1 k1 z1 h1, FI N1 k1 z1 h1 → eWp ox (eEv (d + 1)) eM_L_law (1930, [(0, .retAddr 0), (1, .ref 0), (2, .ref 63), (3, .ref 73), (4, .ref 74), (5, vI i)], [], N1, h1, k + k1, z + z1) P) : eWp ox (eEv (d + 1)) eM_L_law (1180, [(0, .retAddr 0), (1, .ref 0), (2, .ref 63), (3, .ref 73), (4, .ref 74), (5, vI i)], [], N, h, k, z) P := by
  refine eW_aload_n 1181 rfl rfl rfl ?_
  refine eW_callM 1184 [.ref 0] [] (eS_callV rfl rfl rfl (Nat.ble_eq_true_of_le (by omega)) h0 rfl) rfl rfl rfl (by simp only [vI, eClL, eClV, List.all_cons, List.all_nil, Bool.and_true, Bool.and_eq_true, Bool.true_and, Nat.ble_eq]; first | done | omega) (lB_M hL) ?_
  intro v1 n1 h1 a1 b1 f1
  obtain ⟨rfl, hle, hF⟩ := f1
  show eWp _ _ _ (1184, [(0, .retAddr 0), (1, .ref 0), (2, .ref 63), (3, .ref 73), (4, .ref 74), (5, vI i)], [vI v], _, h1, _, _) _
  obtain ⟨hN1, ⟨fs1, e63⟩, hm⟩ := hM _ _ _ _ hF
  refine eW_aload_n 1185 rfl rfl rfl ?_
  refine eW_callM 1188 [.ref 63] [vI v] (eS_callV rfl rfl rfl (Nat.ble_eq_true_of_le (by omega)) e63 rfl) rfl rfl rfl (by simp only [vI, eClL, eClV, List.all_cons, List.all_nil, Bool.and_true, Bool.and_eq_true, Bool.true_and, Nat.ble_eq]; first | done | omega) (lNq_M hm) ?_
  intro v2 n2 h2 a2 b2 f2
  obtain ⟨rfl, rfl, rfl, rfl, hFI⟩ := f2
  show eWp _ _ _ (1188, [(0, .retAddr 0), (1, .ref 0), (2, .ref 63), (3, .ref 73), (4, .ref 74), (5, vI i)], [vI v, vI v], _, h2, _, _) _
  refine eW_icmp_eqE rfl rfl ?_
  exact kk n1 a1 b1 _ hFI
set_option maxRecDepth 20000 in
theorem lc_18 {ox : Nat → Option (Nat × Nat × (Nat → Int32))} {d N n k z : Nat} {h : eHp} {xs : Nat → Int} {i : Int} {P : eR → Prop} (hox : ox 0 = some (0, n, eIA xs)) (hxs : ∀ j, i32 (xs j)) (hi : 0 ≤ i ∧ i + 4 ≤ n) (hn : n ≤ 2048) (hN : 75 ≤ N) {r : Int ⊕ String} {l : List String} {FF : Nat → eHp → Nat → Nat → Prop} (hr : ∀ E, r = .inr E → 1 ≤ lCd l E ∧ lCd l E ≤ 3) (hL : eSp (d + 1) eM_L_period [.ref 0, vI (xs (i + 1).toNat), .ref 73] N h (lR 73 lRow73 lH73 r l FF)) {FI : Nat → Nat → Nat → eHp → Prop} (hM : ∀ N1 g1 h1 k1 z1, FF N1 g1 k1 z1 → (∀ i, i ≠ 73 → h1 i = g1 i) → lRow73 (h1 73) → 75 ≤ N1 ∧ (∃ fs, h1 63 = .inr (11, fs)) ∧ eSp (d + 1) eM_X7_period [.ref 63, vI (xs (i + 1).toNat)] N1 h1 (lM r l N1 h1 (FI N1 k1 z1))) (kk : ∀ N1 k1 z1 h1, FI N1 k1 z1 h1 → eWp ox (eEv (d + 1)) eM_L_law (1930, [(0, .retAddr 0), (1, .ref 0), (2, .ref 63), (3, .ref 73), (4, .ref 74), (5, vI i)], [], N1, h1, k + k1, z + z1) P) : eWp ox (eEv (d + 1)) eM_L_law (1193, [(0, .retAddr 0), (1, .ref 0), (2, .ref 63), (3, .ref 73), (4, .ref 74), (5, vI i)], [], N, h, k, z) P := by
  refine eW_aload_n 1194 rfl rfl rfl ?_
  refine eW_aload_n_out 1195 rfl rfl rfl ?_
  refine eW_iload 1197 rfl rfl rfl ?_
  refine eW_iconst 1198 rfl rfl ?_
  refine eW_iadd 1199 rfl rfl ?_
  refine eW_iaload_o 1200 rfl rfl (xs (i + 1).toNat) hox (by omega) (by omega) (by unfold i32; omega) rfl ?_
  refine eW_aload_n 1201 rfl rfl rfl ?_
  refine eW_callM 1204 [.ref 0, vI (xs (i + 1).toNat), .ref 73] [] (eS_callS rfl rfl (Or.inl rfl) rfl) rfl rfl rfl (by simp only [vI, eClL, eClV, List.all_cons, List.all_nil, Bool.and_true, Bool.and_eq_true, Bool.true_and, Nat.ble_eq]; first | done | omega) (lR_M hL) ?_
  intro v1 n1 h1 a1 b1 f1
  obtain ⟨x1, g1, rfl, hF, ho, hw, hx⟩ := f1
  show eWp _ _ _ (1204, [(0, .retAddr 0), (1, .ref 0), (2, .ref 63), (3, .ref 73), (4, .ref 74), (5, vI i)], [vI x1], _, h1, _, _) _
  refine eW_istore 1206 rfl rfl [(6, vI x1), (0, .retAddr 0), (1, .ref 0), (2, .ref 63), (3, .ref 73), (4, .ref 74), (5, vI i)] rfl rfl ?_
  obtain ⟨hN1, ⟨fs1, e63⟩, hm⟩ := hM _ _ _ _ _ hF ho hw
  refine eW_aload_n 1207 rfl rfl rfl ?_
  refine eW_aload_n_out 1208 rfl rfl rfl ?_
  refine eW_iload 1210 rfl rfl rfl ?_
  refine eW_iconst 1211 rfl rfl ?_
  refine eW_iadd 1212 rfl rfl ?_
  refine eW_iaload_o 1213 rfl rfl (xs (i + 1).toNat) hox (by omega) (by omega) (by unfold i32; omega) rfl ?_
  refine eW_callM 1216 [.ref 63, vI (xs (i + 1).toNat)] [] (eS_callV rfl rfl rfl (Nat.ble_eq_true_of_le (by omega)) e63 rfl) rfl rfl rfl (by simp only [vI, eClL, eClV, List.all_cons, List.all_nil, Bool.and_true, Bool.and_eq_true, Bool.true_and, Nat.ble_eq]; first | done | omega) (lM_M hm) ?_
  intro v2 n2 h2 a2 b2 f2
  obtain ⟨x2, s2, A2, rfl, rfl, rfl, rfl, hm2, ew, hx2, hFI⟩ := f2
  show eWp _ _ _ (1216, [(6, vI x1), (0, .retAddr 0), (1, .ref 0), (2, .ref 63), (3, .ref 73), (4, .ref 74), (5, vI i)], [vI x2], _, h2, _, _) _
  refine eW_istore 1218 rfl rfl [(7, vI x2), (6, vI x1), (0, .retAddr 0), (1, .ref 0), (2, .ref 63), (3, .ref 73), (4, .ref 74), (5, vI i)] rfl rfl ?_
  refine eW_aload_n 1219 rfl rfl rfl ?_
  refine eW_callM 1222 [.ref 63] [] (eS_callV rfl rfl rfl (Nat.ble_eq_true_of_le (by omega)) hm2.1 rfl) rfl rfl rfl (by simp only [vI, eClL, eClV, List.all_cons, List.all_nil, Bool.and_true, Bool.and_eq_true, Bool.true_and, Nat.ble_eq]; first | done | omega) (eRet_M (m_thrown (d := d) hm2 hN1)) ?_
  intro v3 n3 h3 a3 b3 f3
  obtain ⟨rfl, rfl, rfl, rfl, rfl⟩ := f3
  show eWp _ _ _ (1222, [(7, vI x2), (6, vI x1), (0, .retAddr 0), (1, .ref 0), (2, .ref 63), (3, .ref 73), (4, .ref 74), (5, vI i)], [vI (s2 7)], _, _, _, _) _
  refine eW_iload 1224 rfl rfl rfl ?_
  cases r with
  | inr E =>
    have hE := hr E rfl
    have hx1 : x1 = lCd l E := hx
    have hx3 : s2 7 = lCd l E := hx2
    refine eW_icmp_eqE rfl (hx3.trans hx1.symm) ?_
    refine eW_iload 1231 rfl rfl rfl ?_
    refine eW_if_ne 1234 rfl rfl (by unfold i32; omega) (fun _ => ?_) (fun c9 => absurd (show x1 ≠ 0 by omega) c9)
    refine eW_goto rfl ?_
    refine eW_reU [(0, .retAddr 0), (1, .ref 0), (2, .ref 63), (3, .ref 73), (4, .ref 74), (5, vI i)] rfl rfl (List.forall_mem_cons.mpr ⟨rfl, List.forall_mem_cons.mpr ⟨rfl, List.forall_mem_cons.mpr ⟨rfl, List.forall_mem_cons.mpr ⟨rfl, List.forall_mem_cons.mpr ⟨rfl, List.forall_mem_cons.mpr ⟨rfl, fun _ h => absurd h List.not_mem_nil⟩⟩⟩⟩⟩⟩) (List.forall_mem_cons.mpr ⟨Or.inr (Or.inl ⟨_, rfl⟩), List.forall_mem_cons.mpr ⟨Or.inr (Or.inl ⟨_, rfl⟩), List.forall_mem_cons.mpr ⟨Or.inl rfl, List.forall_mem_cons.mpr ⟨Or.inl rfl, List.forall_mem_cons.mpr ⟨Or.inl rfl, List.forall_mem_cons.mpr ⟨Or.inl rfl, List.forall_mem_cons.mpr ⟨Or.inl rfl, List.forall_mem_cons.mpr ⟨Or.inl rfl, fun _ h => absurd h List.not_mem_nil⟩⟩⟩⟩⟩⟩⟩⟩) ?_
    exact kk n1 a1 b1 _ hFI
  | inl a =>
    obtain ⟨hx1, F9, e9, e90⟩ := hx
    obtain ⟨hx3, hxa⟩ := hx2
    subst hx1; subst hxa
    refine eW_icmp_eqE rfl hx3 ?_
    refine eW_iload 1231 rfl rfl rfl ?_
    refine eW_if_ne 1234 rfl rfl (by unfold i32; omega) (fun c9 => absurd rfl c9) (fun _ => ?_)
    refine eW_aload_n 1235 rfl rfl rfl ?_
    refine eW_iconst 1236 rfl rfl ?_
    refine eW_laloadx 1237 rfl rfl (Int32.ofInt x2).toInt64 (Nat.ble_eq_true_of_le (by omega)) (ew.trans e9) (by omega) (by omega) (by unfold i32; omega) e90 ?_
    refine eW_iload 1239 rfl rfl rfl ?_
    refine eW_i2lx 1240 rfl rfl ?_
    refine eW_lcmpE 1241 rfl rfl rfl ?_
    refine eW_if_eq 1244 rfl rfl (by unfold i32; omega) (fun _ => ?_) (fun c9 => absurd rfl c9)
    refine eW_goto rfl ?_
    refine eW_reU [(0, .retAddr 0), (1, .ref 0), (2, .ref 63), (3, .ref 73), (4, .ref 74), (5, vI i)] rfl rfl (List.forall_mem_cons.mpr ⟨rfl, List.forall_mem_cons.mpr ⟨rfl, List.forall_mem_cons.mpr ⟨rfl, List.forall_mem_cons.mpr ⟨rfl, List.forall_mem_cons.mpr ⟨rfl, List.forall_mem_cons.mpr ⟨rfl, fun _ h => absurd h List.not_mem_nil⟩⟩⟩⟩⟩⟩) (List.forall_mem_cons.mpr ⟨Or.inr (Or.inl ⟨_, rfl⟩), List.forall_mem_cons.mpr ⟨Or.inr (Or.inl ⟨_, rfl⟩), List.forall_mem_cons.mpr ⟨Or.inl rfl, List.forall_mem_cons.mpr ⟨Or.inl rfl, List.forall_mem_cons.mpr ⟨Or.inl rfl, List.forall_mem_cons.mpr ⟨Or.inl rfl, List.forall_mem_cons.mpr ⟨Or.inl rfl, List.forall_mem_cons.mpr ⟨Or.inl rfl, fun _ h => absurd h List.not_mem_nil⟩⟩⟩⟩⟩⟩⟩⟩) ?_
    exact kk n1 a1 b1 _ hFI
set_option maxRecDepth 20000 in
theorem lc_19 {ox : Nat → Option (Nat × Nat × (Nat → Int32))} {d N n k z : Nat} {h : eHp} {xs : Nat → Int} {i : Int} {P : eR → Prop} (hox : ox 0 = some (0, n, eIA xs)) (hxs : ∀ j, i32 (xs j)) (hi : 0 ≤ i ∧ i + 4 ≤ n) (hn : n ≤ 2048) (hN : 75 ≤ N) {r : Int ⊕ String} {l : List String} {FF : Nat → eHp → Nat → Nat → Prop} (hr : ∀ E, r = .inr E → 1 ≤ lCd l E ∧ lCd l E ≤ 3) (hL : eSp (d + 1) eM_L_least [.ref 0, vI (xs (i + 1).toNat), .ref 73] N h (lR 73 lRow73 lH73 r l FF)) {FI : Nat → Nat → Nat → eHp → Prop} (hM : ∀ N1 g1 h1 k1 z1, FF N1 g1 k1 z1 → (∀ i, i ≠ 73 → h1 i = g1 i) → lRow73 (h1 73) → 75 ≤ N1 ∧ (∃ fs, h1 63 = .inr (11, fs)) ∧ eSp (d + 1) eM_X7_least [.ref 63, vI (xs (i + 1).toNat)] N1 h1 (lM r l N1 h1 (FI N1 k1 z1))) (kk : ∀ N1 k1 z1 h1, FI N1 k1 z1 h1 → eWp ox (eEv (d + 1)) eM_L_law (1930, [(0, .retAddr 0), (1, .ref 0), (2, .ref 63), (3, .ref 73), (4, .ref 74), (5, vI i)], [], N1, h1, k + k1, z + z1) P) : eWp ox (eEv (d + 1)) eM_L_law (1249, [(0, .retAddr 0), (1, .ref 0), (2, .ref 63), (3, .ref 73), (4, .ref 74), (5, vI i)], [], N, h, k, z) P := by
  refine eW_aload_n 1250 rfl rfl rfl ?_
  refine eW_aload_n_out 1251 rfl rfl rfl ?_
  refine eW_iload 1253 rfl rfl rfl ?_
  refine eW_iconst 1254 rfl rfl ?_
  refine eW_iadd 1255 rfl rfl ?_
  refine eW_iaload_o 1256 rfl rfl (xs (i + 1).toNat) hox (by omega) (by omega) (by unfold i32; omega) rfl ?_
  refine eW_aload_n 1257 rfl rfl rfl ?_
  refine eW_callM 1260 [.ref 0, vI (xs (i + 1).toNat), .ref 73] [] (eS_callS rfl rfl (Or.inl rfl) rfl) rfl rfl rfl (by simp only [vI, eClL, eClV, List.all_cons, List.all_nil, Bool.and_true, Bool.and_eq_true, Bool.true_and, Nat.ble_eq]; first | done | omega) (lR_M hL) ?_
  intro v1 n1 h1 a1 b1 f1
  obtain ⟨x1, g1, rfl, hF, ho, hw, hx⟩ := f1
  show eWp _ _ _ (1260, [(0, .retAddr 0), (1, .ref 0), (2, .ref 63), (3, .ref 73), (4, .ref 74), (5, vI i)], [vI x1], _, h1, _, _) _
  refine eW_istore 1262 rfl rfl [(6, vI x1), (0, .retAddr 0), (1, .ref 0), (2, .ref 63), (3, .ref 73), (4, .ref 74), (5, vI i)] rfl rfl ?_
  obtain ⟨hN1, ⟨fs1, e63⟩, hm⟩ := hM _ _ _ _ _ hF ho hw
  refine eW_aload_n 1263 rfl rfl rfl ?_
  refine eW_aload_n_out 1264 rfl rfl rfl ?_
  refine eW_iload 1266 rfl rfl rfl ?_
  refine eW_iconst 1267 rfl rfl ?_
  refine eW_iadd 1268 rfl rfl ?_
  refine eW_iaload_o 1269 rfl rfl (xs (i + 1).toNat) hox (by omega) (by omega) (by unfold i32; omega) rfl ?_
  refine eW_callM 1272 [.ref 63, vI (xs (i + 1).toNat)] [] (eS_callV rfl rfl rfl (Nat.ble_eq_true_of_le (by omega)) e63 rfl) rfl rfl rfl (by simp only [vI, eClL, eClV, List.all_cons, List.all_nil, Bool.and_true, Bool.and_eq_true, Bool.true_and, Nat.ble_eq]; first | done | omega) (lM_M hm) ?_
  intro v2 n2 h2 a2 b2 f2
  obtain ⟨x2, s2, A2, rfl, rfl, rfl, rfl, hm2, ew, hx2, hFI⟩ := f2
  show eWp _ _ _ (1272, [(6, vI x1), (0, .retAddr 0), (1, .ref 0), (2, .ref 63), (3, .ref 73), (4, .ref 74), (5, vI i)], [vI x2], _, h2, _, _) _
  refine eW_istore 1274 rfl rfl [(7, vI x2), (6, vI x1), (0, .retAddr 0), (1, .ref 0), (2, .ref 63), (3, .ref 73), (4, .ref 74), (5, vI i)] rfl rfl ?_
  refine eW_aload_n 1275 rfl rfl rfl ?_
  refine eW_callM 1278 [.ref 63] [] (eS_callV rfl rfl rfl (Nat.ble_eq_true_of_le (by omega)) hm2.1 rfl) rfl rfl rfl (by simp only [vI, eClL, eClV, List.all_cons, List.all_nil, Bool.and_true, Bool.and_eq_true, Bool.true_and, Nat.ble_eq]; first | done | omega) (eRet_M (m_thrown (d := d) hm2 hN1)) ?_
  intro v3 n3 h3 a3 b3 f3
  obtain ⟨rfl, rfl, rfl, rfl, rfl⟩ := f3
  show eWp _ _ _ (1278, [(7, vI x2), (6, vI x1), (0, .retAddr 0), (1, .ref 0), (2, .ref 63), (3, .ref 73), (4, .ref 74), (5, vI i)], [vI (s2 7)], _, _, _, _) _
  refine eW_iload 1280 rfl rfl rfl ?_
  cases r with
  | inr E =>
    have hE := hr E rfl
    have hx1 : x1 = lCd l E := hx
    have hx3 : s2 7 = lCd l E := hx2
    refine eW_icmp_eqE rfl (hx3.trans hx1.symm) ?_
    refine eW_iload 1287 rfl rfl rfl ?_
    refine eW_if_ne 1290 rfl rfl (by unfold i32; omega) (fun _ => ?_) (fun c9 => absurd (show x1 ≠ 0 by omega) c9)
    refine eW_goto rfl ?_
    refine eW_reU [(0, .retAddr 0), (1, .ref 0), (2, .ref 63), (3, .ref 73), (4, .ref 74), (5, vI i)] rfl rfl (List.forall_mem_cons.mpr ⟨rfl, List.forall_mem_cons.mpr ⟨rfl, List.forall_mem_cons.mpr ⟨rfl, List.forall_mem_cons.mpr ⟨rfl, List.forall_mem_cons.mpr ⟨rfl, List.forall_mem_cons.mpr ⟨rfl, fun _ h => absurd h List.not_mem_nil⟩⟩⟩⟩⟩⟩) (List.forall_mem_cons.mpr ⟨Or.inr (Or.inl ⟨_, rfl⟩), List.forall_mem_cons.mpr ⟨Or.inr (Or.inl ⟨_, rfl⟩), List.forall_mem_cons.mpr ⟨Or.inl rfl, List.forall_mem_cons.mpr ⟨Or.inl rfl, List.forall_mem_cons.mpr ⟨Or.inl rfl, List.forall_mem_cons.mpr ⟨Or.inl rfl, List.forall_mem_cons.mpr ⟨Or.inl rfl, List.forall_mem_cons.mpr ⟨Or.inl rfl, fun _ h => absurd h List.not_mem_nil⟩⟩⟩⟩⟩⟩⟩⟩) ?_
    exact kk n1 a1 b1 _ hFI
  | inl a =>
    obtain ⟨hx1, F9, e9, e90⟩ := hx
    obtain ⟨hx3, hxa⟩ := hx2
    subst hx1; subst hxa
    refine eW_icmp_eqE rfl hx3 ?_
    refine eW_iload 1287 rfl rfl rfl ?_
    refine eW_if_ne 1290 rfl rfl (by unfold i32; omega) (fun c9 => absurd rfl c9) (fun _ => ?_)
    refine eW_aload_n 1291 rfl rfl rfl ?_
    refine eW_iconst 1292 rfl rfl ?_
    refine eW_laloadx 1293 rfl rfl (Int32.ofInt x2).toInt64 (Nat.ble_eq_true_of_le (by omega)) (ew.trans e9) (by omega) (by omega) (by unfold i32; omega) e90 ?_
    refine eW_iload 1295 rfl rfl rfl ?_
    refine eW_i2lx 1296 rfl rfl ?_
    refine eW_lcmpE 1297 rfl rfl rfl ?_
    refine eW_if_eq 1300 rfl rfl (by unfold i32; omega) (fun _ => ?_) (fun c9 => absurd rfl c9)
    refine eW_goto rfl ?_
    refine eW_reU [(0, .retAddr 0), (1, .ref 0), (2, .ref 63), (3, .ref 73), (4, .ref 74), (5, vI i)] rfl rfl (List.forall_mem_cons.mpr ⟨rfl, List.forall_mem_cons.mpr ⟨rfl, List.forall_mem_cons.mpr ⟨rfl, List.forall_mem_cons.mpr ⟨rfl, List.forall_mem_cons.mpr ⟨rfl, List.forall_mem_cons.mpr ⟨rfl, fun _ h => absurd h List.not_mem_nil⟩⟩⟩⟩⟩⟩) (List.forall_mem_cons.mpr ⟨Or.inr (Or.inl ⟨_, rfl⟩), List.forall_mem_cons.mpr ⟨Or.inr (Or.inl ⟨_, rfl⟩), List.forall_mem_cons.mpr ⟨Or.inl rfl, List.forall_mem_cons.mpr ⟨Or.inl rfl, List.forall_mem_cons.mpr ⟨Or.inl rfl, List.forall_mem_cons.mpr ⟨Or.inl rfl, List.forall_mem_cons.mpr ⟨Or.inl rfl, List.forall_mem_cons.mpr ⟨Or.inl rfl, fun _ h => absurd h List.not_mem_nil⟩⟩⟩⟩⟩⟩⟩⟩) ?_
    exact kk n1 a1 b1 _ hFI
set_option maxRecDepth 20000 in
theorem lc_20 {ox : Nat → Option (Nat × Nat × (Nat → Int32))} {d N n k z : Nat} {h : eHp} {xs : Nat → Int} {i : Int} {P : eR → Prop} (hox : ox 0 = some (0, n, eIA xs)) (hxs : ∀ j, i32 (xs j)) (hi : 0 ≤ i ∧ i + 4 ≤ n) (hn : n ≤ 2048) (hN : 75 ≤ N) {fs : List Value} (h0 : h 0 = .inr (10, fs)) {v : Int} {FF : Nat → eHp → Nat → Nat → Prop} (hL : eSp (d + 1) eM_X6_line [.ref 0] N h (lB v N FF)) {FI : Nat → Nat → Nat → eHp → Prop} (hM : ∀ N1 h1 k1 z1, FF N1 h1 k1 z1 → 75 ≤ N1 ∧ (∃ fs, h1 63 = .inr (11, fs)) ∧ eSp (d + 1) eM_X7_line [.ref 63] N1 h1 (lNq v N1 (FI N1 k1 z1))) (kk : ∀ N1 k1 z1 h1, FI N1 k1 z1 h1 → eWp ox (eEv (d + 1)) eM_L_law (1930, [(0, .retAddr 0), (1, .ref 0), (2, .ref 63), (3, .ref 73), (4, .ref 74), (5, vI i)], [], N1, h1, k + k1, z + z1) P) : eWp ox (eEv (d + 1)) eM_L_law (1305, [(0, .retAddr 0), (1, .ref 0), (2, .ref 63), (3, .ref 73), (4, .ref 74), (5, vI i)], [], N, h, k, z) P := by
  refine eW_aload_n 1306 rfl rfl rfl ?_
  refine eW_callM 1309 [.ref 0] [] (eS_callV rfl rfl rfl (Nat.ble_eq_true_of_le (by omega)) h0 rfl) rfl rfl rfl (by simp only [vI, eClL, eClV, List.all_cons, List.all_nil, Bool.and_true, Bool.and_eq_true, Bool.true_and, Nat.ble_eq]; first | done | omega) (lB_M hL) ?_
  intro v1 n1 h1 a1 b1 f1
  obtain ⟨rfl, hle, hF⟩ := f1
  show eWp _ _ _ (1309, [(0, .retAddr 0), (1, .ref 0), (2, .ref 63), (3, .ref 73), (4, .ref 74), (5, vI i)], [vI v], _, h1, _, _) _
  obtain ⟨hN1, ⟨fs1, e63⟩, hm⟩ := hM _ _ _ _ hF
  refine eW_aload_n 1310 rfl rfl rfl ?_
  refine eW_callM 1313 [.ref 63] [vI v] (eS_callV rfl rfl rfl (Nat.ble_eq_true_of_le (by omega)) e63 rfl) rfl rfl rfl (by simp only [vI, eClL, eClV, List.all_cons, List.all_nil, Bool.and_true, Bool.and_eq_true, Bool.true_and, Nat.ble_eq]; first | done | omega) (lNq_M hm) ?_
  intro v2 n2 h2 a2 b2 f2
  obtain ⟨rfl, rfl, rfl, rfl, hFI⟩ := f2
  show eWp _ _ _ (1313, [(0, .retAddr 0), (1, .ref 0), (2, .ref 63), (3, .ref 73), (4, .ref 74), (5, vI i)], [vI v, vI v], _, h2, _, _) _
  refine eW_icmp_eqE rfl rfl ?_
  exact kk n1 a1 b1 _ hFI
set_option maxRecDepth 20000 in
theorem lc_21 {ox : Nat → Option (Nat × Nat × (Nat → Int32))} {d N n k z : Nat} {h : eHp} {xs : Nat → Int} {i : Int} {P : eR → Prop} (hox : ox 0 = some (0, n, eIA xs)) (hxs : ∀ j, i32 (xs j)) (hi : 0 ≤ i ∧ i + 4 ≤ n) (hn : n ≤ 2048) (hN : 75 ≤ N) {r : Int ⊕ String} {l : List String} {FF : Nat → eHp → Nat → Nat → Prop} (hr : ∀ E, r = .inr E → 1 ≤ lCd l E ∧ lCd l E ≤ 3) (hL : eSp (d + 1) eM_L_valuesLine [.ref 0, vI (xs (i + 1).toNat), .ref 73] N h (lR 73 lRow73 lH73 r l FF)) {FI : Nat → Nat → Nat → eHp → Prop} (hM : ∀ N1 g1 h1 k1 z1, FF N1 g1 k1 z1 → (∀ i, i ≠ 73 → h1 i = g1 i) → lRow73 (h1 73) → 75 ≤ N1 ∧ (∃ fs, h1 63 = .inr (11, fs)) ∧ eSp (d + 1) eM_X7_valuesLine [.ref 63, vI (xs (i + 1).toNat)] N1 h1 (lM r l N1 h1 (FI N1 k1 z1))) (kk : ∀ N1 k1 z1 h1, FI N1 k1 z1 h1 → eWp ox (eEv (d + 1)) eM_L_law (1930, [(0, .retAddr 0), (1, .ref 0), (2, .ref 63), (3, .ref 73), (4, .ref 74), (5, vI i)], [], N1, h1, k + k1, z + z1) P) : eWp ox (eEv (d + 1)) eM_L_law (1318, [(0, .retAddr 0), (1, .ref 0), (2, .ref 63), (3, .ref 73), (4, .ref 74), (5, vI i)], [], N, h, k, z) P := by
  refine eW_aload_n 1319 rfl rfl rfl ?_
  refine eW_aload_n_out 1320 rfl rfl rfl ?_
  refine eW_iload 1322 rfl rfl rfl ?_
  refine eW_iconst 1323 rfl rfl ?_
  refine eW_iadd 1324 rfl rfl ?_
  refine eW_iaload_o 1325 rfl rfl (xs (i + 1).toNat) hox (by omega) (by omega) (by unfold i32; omega) rfl ?_
  refine eW_aload_n 1326 rfl rfl rfl ?_
  refine eW_callM 1329 [.ref 0, vI (xs (i + 1).toNat), .ref 73] [] (eS_callS rfl rfl (Or.inl rfl) rfl) rfl rfl rfl (by simp only [vI, eClL, eClV, List.all_cons, List.all_nil, Bool.and_true, Bool.and_eq_true, Bool.true_and, Nat.ble_eq]; first | done | omega) (lR_M hL) ?_
  intro v1 n1 h1 a1 b1 f1
  obtain ⟨x1, g1, rfl, hF, ho, hw, hx⟩ := f1
  show eWp _ _ _ (1329, [(0, .retAddr 0), (1, .ref 0), (2, .ref 63), (3, .ref 73), (4, .ref 74), (5, vI i)], [vI x1], _, h1, _, _) _
  refine eW_istore 1331 rfl rfl [(6, vI x1), (0, .retAddr 0), (1, .ref 0), (2, .ref 63), (3, .ref 73), (4, .ref 74), (5, vI i)] rfl rfl ?_
  obtain ⟨hN1, ⟨fs1, e63⟩, hm⟩ := hM _ _ _ _ _ hF ho hw
  refine eW_aload_n 1332 rfl rfl rfl ?_
  refine eW_aload_n_out 1333 rfl rfl rfl ?_
  refine eW_iload 1335 rfl rfl rfl ?_
  refine eW_iconst 1336 rfl rfl ?_
  refine eW_iadd 1337 rfl rfl ?_
  refine eW_iaload_o 1338 rfl rfl (xs (i + 1).toNat) hox (by omega) (by omega) (by unfold i32; omega) rfl ?_
  refine eW_callM 1341 [.ref 63, vI (xs (i + 1).toNat)] [] (eS_callV rfl rfl rfl (Nat.ble_eq_true_of_le (by omega)) e63 rfl) rfl rfl rfl (by simp only [vI, eClL, eClV, List.all_cons, List.all_nil, Bool.and_true, Bool.and_eq_true, Bool.true_and, Nat.ble_eq]; first | done | omega) (lM_M hm) ?_
  intro v2 n2 h2 a2 b2 f2
  obtain ⟨x2, s2, A2, rfl, rfl, rfl, rfl, hm2, ew, hx2, hFI⟩ := f2
  show eWp _ _ _ (1341, [(6, vI x1), (0, .retAddr 0), (1, .ref 0), (2, .ref 63), (3, .ref 73), (4, .ref 74), (5, vI i)], [vI x2], _, h2, _, _) _
  refine eW_istore 1343 rfl rfl [(7, vI x2), (6, vI x1), (0, .retAddr 0), (1, .ref 0), (2, .ref 63), (3, .ref 73), (4, .ref 74), (5, vI i)] rfl rfl ?_
  refine eW_aload_n 1344 rfl rfl rfl ?_
  refine eW_callM 1347 [.ref 63] [] (eS_callV rfl rfl rfl (Nat.ble_eq_true_of_le (by omega)) hm2.1 rfl) rfl rfl rfl (by simp only [vI, eClL, eClV, List.all_cons, List.all_nil, Bool.and_true, Bool.and_eq_true, Bool.true_and, Nat.ble_eq]; first | done | omega) (eRet_M (m_thrown (d := d) hm2 hN1)) ?_
  intro v3 n3 h3 a3 b3 f3
  obtain ⟨rfl, rfl, rfl, rfl, rfl⟩ := f3
  show eWp _ _ _ (1347, [(7, vI x2), (6, vI x1), (0, .retAddr 0), (1, .ref 0), (2, .ref 63), (3, .ref 73), (4, .ref 74), (5, vI i)], [vI (s2 7)], _, _, _, _) _
  refine eW_iload 1349 rfl rfl rfl ?_
  cases r with
  | inr E =>
    have hE := hr E rfl
    have hx1 : x1 = lCd l E := hx
    have hx3 : s2 7 = lCd l E := hx2
    refine eW_icmp_eqE rfl (hx3.trans hx1.symm) ?_
    refine eW_iload 1356 rfl rfl rfl ?_
    refine eW_if_ne 1359 rfl rfl (by unfold i32; omega) (fun _ => ?_) (fun c9 => absurd (show x1 ≠ 0 by omega) c9)
    refine eW_goto rfl ?_
    refine eW_reU [(0, .retAddr 0), (1, .ref 0), (2, .ref 63), (3, .ref 73), (4, .ref 74), (5, vI i)] rfl rfl (List.forall_mem_cons.mpr ⟨rfl, List.forall_mem_cons.mpr ⟨rfl, List.forall_mem_cons.mpr ⟨rfl, List.forall_mem_cons.mpr ⟨rfl, List.forall_mem_cons.mpr ⟨rfl, List.forall_mem_cons.mpr ⟨rfl, fun _ h => absurd h List.not_mem_nil⟩⟩⟩⟩⟩⟩) (List.forall_mem_cons.mpr ⟨Or.inr (Or.inl ⟨_, rfl⟩), List.forall_mem_cons.mpr ⟨Or.inr (Or.inl ⟨_, rfl⟩), List.forall_mem_cons.mpr ⟨Or.inl rfl, List.forall_mem_cons.mpr ⟨Or.inl rfl, List.forall_mem_cons.mpr ⟨Or.inl rfl, List.forall_mem_cons.mpr ⟨Or.inl rfl, List.forall_mem_cons.mpr ⟨Or.inl rfl, List.forall_mem_cons.mpr ⟨Or.inl rfl, fun _ h => absurd h List.not_mem_nil⟩⟩⟩⟩⟩⟩⟩⟩) ?_
    exact kk n1 a1 b1 _ hFI
  | inl a =>
    obtain ⟨hx1, F9, e9, e90⟩ := hx
    obtain ⟨hx3, hxa⟩ := hx2
    subst hx1; subst hxa
    refine eW_icmp_eqE rfl hx3 ?_
    refine eW_iload 1356 rfl rfl rfl ?_
    refine eW_if_ne 1359 rfl rfl (by unfold i32; omega) (fun c9 => absurd rfl c9) (fun _ => ?_)
    refine eW_aload_n 1360 rfl rfl rfl ?_
    refine eW_iconst 1361 rfl rfl ?_
    refine eW_laloadx 1362 rfl rfl (Int32.ofInt x2).toInt64 (Nat.ble_eq_true_of_le (by omega)) (ew.trans e9) (by omega) (by omega) (by unfold i32; omega) e90 ?_
    refine eW_iload 1364 rfl rfl rfl ?_
    refine eW_i2lx 1365 rfl rfl ?_
    refine eW_lcmpE 1366 rfl rfl rfl ?_
    refine eW_if_eq 1369 rfl rfl (by unfold i32; omega) (fun _ => ?_) (fun c9 => absurd rfl c9)
    refine eW_goto rfl ?_
    refine eW_reU [(0, .retAddr 0), (1, .ref 0), (2, .ref 63), (3, .ref 73), (4, .ref 74), (5, vI i)] rfl rfl (List.forall_mem_cons.mpr ⟨rfl, List.forall_mem_cons.mpr ⟨rfl, List.forall_mem_cons.mpr ⟨rfl, List.forall_mem_cons.mpr ⟨rfl, List.forall_mem_cons.mpr ⟨rfl, List.forall_mem_cons.mpr ⟨rfl, fun _ h => absurd h List.not_mem_nil⟩⟩⟩⟩⟩⟩) (List.forall_mem_cons.mpr ⟨Or.inr (Or.inl ⟨_, rfl⟩), List.forall_mem_cons.mpr ⟨Or.inr (Or.inl ⟨_, rfl⟩), List.forall_mem_cons.mpr ⟨Or.inl rfl, List.forall_mem_cons.mpr ⟨Or.inl rfl, List.forall_mem_cons.mpr ⟨Or.inl rfl, List.forall_mem_cons.mpr ⟨Or.inl rfl, List.forall_mem_cons.mpr ⟨Or.inl rfl, List.forall_mem_cons.mpr ⟨Or.inl rfl, fun _ h => absurd h List.not_mem_nil⟩⟩⟩⟩⟩⟩⟩⟩) ?_
    exact kk n1 a1 b1 _ hFI
set_option maxRecDepth 20000 in
theorem lc_22 {ox : Nat → Option (Nat × Nat × (Nat → Int32))} {d N n k z : Nat} {h : eHp} {xs : Nat → Int} {i : Int} {P : eR → Prop} (hox : ox 0 = some (0, n, eIA xs)) (hxs : ∀ j, i32 (xs j)) (hi : 0 ≤ i ∧ i + 4 ≤ n) (hn : n ≤ 2048) (hN : 75 ≤ N) {r : Int ⊕ String} {l : List String} {FF : Nat → eHp → Nat → Nat → Prop} (hr : ∀ E, r = .inr E → 1 ≤ lCd l E ∧ lCd l E ≤ 3) (hL : eSp (d + 1) eM_L_character [.ref 0, vI (xs (i + 1).toNat), .ref 73] N h (lR 73 lRow73 lH73 r l FF)) {FI : Nat → Nat → Nat → eHp → Prop} (hM : ∀ N1 g1 h1 k1 z1, FF N1 g1 k1 z1 → (∀ i, i ≠ 73 → h1 i = g1 i) → lRow73 (h1 73) → 75 ≤ N1 ∧ (∃ fs, h1 63 = .inr (11, fs)) ∧ eSp (d + 1) eM_X7_character [.ref 63, vI (xs (i + 1).toNat)] N1 h1 (lM r l N1 h1 (FI N1 k1 z1))) (kk : ∀ N1 k1 z1 h1, FI N1 k1 z1 h1 → eWp ox (eEv (d + 1)) eM_L_law (1930, [(0, .retAddr 0), (1, .ref 0), (2, .ref 63), (3, .ref 73), (4, .ref 74), (5, vI i)], [], N1, h1, k + k1, z + z1) P) : eWp ox (eEv (d + 1)) eM_L_law (1374, [(0, .retAddr 0), (1, .ref 0), (2, .ref 63), (3, .ref 73), (4, .ref 74), (5, vI i)], [], N, h, k, z) P := by
  refine eW_aload_n 1375 rfl rfl rfl ?_
  refine eW_aload_n_out 1376 rfl rfl rfl ?_
  refine eW_iload 1378 rfl rfl rfl ?_
  refine eW_iconst 1379 rfl rfl ?_
  refine eW_iadd 1380 rfl rfl ?_
  refine eW_iaload_o 1381 rfl rfl (xs (i + 1).toNat) hox (by omega) (by omega) (by unfold i32; omega) rfl ?_
  refine eW_aload_n 1382 rfl rfl rfl ?_
  refine eW_callM 1385 [.ref 0, vI (xs (i + 1).toNat), .ref 73] [] (eS_callS rfl rfl (Or.inl rfl) rfl) rfl rfl rfl (by simp only [vI, eClL, eClV, List.all_cons, List.all_nil, Bool.and_true, Bool.and_eq_true, Bool.true_and, Nat.ble_eq]; first | done | omega) (lR_M hL) ?_
  intro v1 n1 h1 a1 b1 f1
  obtain ⟨x1, g1, rfl, hF, ho, hw, hx⟩ := f1
  show eWp _ _ _ (1385, [(0, .retAddr 0), (1, .ref 0), (2, .ref 63), (3, .ref 73), (4, .ref 74), (5, vI i)], [vI x1], _, h1, _, _) _
  refine eW_istore 1387 rfl rfl [(6, vI x1), (0, .retAddr 0), (1, .ref 0), (2, .ref 63), (3, .ref 73), (4, .ref 74), (5, vI i)] rfl rfl ?_
  obtain ⟨hN1, ⟨fs1, e63⟩, hm⟩ := hM _ _ _ _ _ hF ho hw
  refine eW_aload_n 1388 rfl rfl rfl ?_
  refine eW_aload_n_out 1389 rfl rfl rfl ?_
  refine eW_iload 1391 rfl rfl rfl ?_
  refine eW_iconst 1392 rfl rfl ?_
  refine eW_iadd 1393 rfl rfl ?_
  refine eW_iaload_o 1394 rfl rfl (xs (i + 1).toNat) hox (by omega) (by omega) (by unfold i32; omega) rfl ?_
  refine eW_callM 1397 [.ref 63, vI (xs (i + 1).toNat)] [] (eS_callV rfl rfl rfl (Nat.ble_eq_true_of_le (by omega)) e63 rfl) rfl rfl rfl (by simp only [vI, eClL, eClV, List.all_cons, List.all_nil, Bool.and_true, Bool.and_eq_true, Bool.true_and, Nat.ble_eq]; first | done | omega) (lM_M hm) ?_
  intro v2 n2 h2 a2 b2 f2
  obtain ⟨x2, s2, A2, rfl, rfl, rfl, rfl, hm2, ew, hx2, hFI⟩ := f2
  show eWp _ _ _ (1397, [(6, vI x1), (0, .retAddr 0), (1, .ref 0), (2, .ref 63), (3, .ref 73), (4, .ref 74), (5, vI i)], [vI x2], _, h2, _, _) _
  refine eW_istore 1399 rfl rfl [(7, vI x2), (6, vI x1), (0, .retAddr 0), (1, .ref 0), (2, .ref 63), (3, .ref 73), (4, .ref 74), (5, vI i)] rfl rfl ?_
  refine eW_aload_n 1400 rfl rfl rfl ?_
  refine eW_callM 1403 [.ref 63] [] (eS_callV rfl rfl rfl (Nat.ble_eq_true_of_le (by omega)) hm2.1 rfl) rfl rfl rfl (by simp only [vI, eClL, eClV, List.all_cons, List.all_nil, Bool.and_true, Bool.and_eq_true, Bool.true_and, Nat.ble_eq]; first | done | omega) (eRet_M (m_thrown (d := d) hm2 hN1)) ?_
  intro v3 n3 h3 a3 b3 f3
  obtain ⟨rfl, rfl, rfl, rfl, rfl⟩ := f3
  show eWp _ _ _ (1403, [(7, vI x2), (6, vI x1), (0, .retAddr 0), (1, .ref 0), (2, .ref 63), (3, .ref 73), (4, .ref 74), (5, vI i)], [vI (s2 7)], _, _, _, _) _
  refine eW_iload 1405 rfl rfl rfl ?_
  cases r with
  | inr E =>
    have hE := hr E rfl
    have hx1 : x1 = lCd l E := hx
    have hx3 : s2 7 = lCd l E := hx2
    refine eW_icmp_eqE rfl (hx3.trans hx1.symm) ?_
    refine eW_iload 1412 rfl rfl rfl ?_
    refine eW_if_ne 1415 rfl rfl (by unfold i32; omega) (fun _ => ?_) (fun c9 => absurd (show x1 ≠ 0 by omega) c9)
    refine eW_goto rfl ?_
    refine eW_reU [(0, .retAddr 0), (1, .ref 0), (2, .ref 63), (3, .ref 73), (4, .ref 74), (5, vI i)] rfl rfl (List.forall_mem_cons.mpr ⟨rfl, List.forall_mem_cons.mpr ⟨rfl, List.forall_mem_cons.mpr ⟨rfl, List.forall_mem_cons.mpr ⟨rfl, List.forall_mem_cons.mpr ⟨rfl, List.forall_mem_cons.mpr ⟨rfl, fun _ h => absurd h List.not_mem_nil⟩⟩⟩⟩⟩⟩) (List.forall_mem_cons.mpr ⟨Or.inr (Or.inl ⟨_, rfl⟩), List.forall_mem_cons.mpr ⟨Or.inr (Or.inl ⟨_, rfl⟩), List.forall_mem_cons.mpr ⟨Or.inl rfl, List.forall_mem_cons.mpr ⟨Or.inl rfl, List.forall_mem_cons.mpr ⟨Or.inl rfl, List.forall_mem_cons.mpr ⟨Or.inl rfl, List.forall_mem_cons.mpr ⟨Or.inl rfl, List.forall_mem_cons.mpr ⟨Or.inl rfl, fun _ h => absurd h List.not_mem_nil⟩⟩⟩⟩⟩⟩⟩⟩) ?_
    exact kk n1 a1 b1 _ hFI
  | inl a =>
    obtain ⟨hx1, F9, e9, e90⟩ := hx
    obtain ⟨hx3, hxa⟩ := hx2
    subst hx1; subst hxa
    refine eW_icmp_eqE rfl hx3 ?_
    refine eW_iload 1412 rfl rfl rfl ?_
    refine eW_if_ne 1415 rfl rfl (by unfold i32; omega) (fun c9 => absurd rfl c9) (fun _ => ?_)
    refine eW_aload_n 1416 rfl rfl rfl ?_
    refine eW_iconst 1417 rfl rfl ?_
    refine eW_laloadx 1418 rfl rfl (Int32.ofInt x2).toInt64 (Nat.ble_eq_true_of_le (by omega)) (ew.trans e9) (by omega) (by omega) (by unfold i32; omega) e90 ?_
    refine eW_iload 1420 rfl rfl rfl ?_
    refine eW_i2lx 1421 rfl rfl ?_
    refine eW_lcmpE 1422 rfl rfl rfl ?_
    refine eW_if_eq 1425 rfl rfl (by unfold i32; omega) (fun _ => ?_) (fun c9 => absurd rfl c9)
    refine eW_goto rfl ?_
    refine eW_reU [(0, .retAddr 0), (1, .ref 0), (2, .ref 63), (3, .ref 73), (4, .ref 74), (5, vI i)] rfl rfl (List.forall_mem_cons.mpr ⟨rfl, List.forall_mem_cons.mpr ⟨rfl, List.forall_mem_cons.mpr ⟨rfl, List.forall_mem_cons.mpr ⟨rfl, List.forall_mem_cons.mpr ⟨rfl, List.forall_mem_cons.mpr ⟨rfl, fun _ h => absurd h List.not_mem_nil⟩⟩⟩⟩⟩⟩) (List.forall_mem_cons.mpr ⟨Or.inr (Or.inl ⟨_, rfl⟩), List.forall_mem_cons.mpr ⟨Or.inr (Or.inl ⟨_, rfl⟩), List.forall_mem_cons.mpr ⟨Or.inl rfl, List.forall_mem_cons.mpr ⟨Or.inl rfl, List.forall_mem_cons.mpr ⟨Or.inl rfl, List.forall_mem_cons.mpr ⟨Or.inl rfl, List.forall_mem_cons.mpr ⟨Or.inl rfl, List.forall_mem_cons.mpr ⟨Or.inl rfl, fun _ h => absurd h List.not_mem_nil⟩⟩⟩⟩⟩⟩⟩⟩) ?_
    exact kk n1 a1 b1 _ hFI
set_option maxRecDepth 20000 in
theorem lc_23 {ox : Nat → Option (Nat × Nat × (Nat → Int32))} {d N n k z : Nat} {h : eHp} {xs : Nat → Int} {i : Int} {P : eR → Prop} (hox : ox 0 = some (0, n, eIA xs)) (hxs : ∀ j, i32 (xs j)) (hi : 0 ≤ i ∧ i + 4 ≤ n) (hn : n ≤ 2048) (hN : 75 ≤ N) {r : Int ⊕ String} {l : List String} {FF : Nat → eHp → Nat → Nat → Prop} (hr : ∀ E, r = .inr E → 1 ≤ lCd l E ∧ lCd l E ≤ 3) {ch : Int} (hch : ((Int32.ofInt (xs (i + 1).toNat)).toUInt32 % 65536).toInt32 = Int32.ofInt ch) (hL : eSp (d + 1) eM_L_append [.ref 0, vI ch, .ref 73] N h (lR 73 lRow73 lH73 r l FF)) {FI : Nat → Nat → Nat → eHp → Prop} (hM : ∀ N1 g1 h1 k1 z1, FF N1 g1 k1 z1 → (∀ i, i ≠ 73 → h1 i = g1 i) → lRow73 (h1 73) → 75 ≤ N1 ∧ (∃ fs, h1 63 = .inr (11, fs)) ∧ eSp (d + 1) eM_X7_append [.ref 63, vI ch] N1 h1 (lM r l N1 h1 (FI N1 k1 z1))) (kk : ∀ N1 k1 z1 h1, FI N1 k1 z1 h1 → eWp ox (eEv (d + 1)) eM_L_law (1930, [(0, .retAddr 0), (1, .ref 0), (2, .ref 63), (3, .ref 73), (4, .ref 74), (5, vI i)], [], N1, h1, k + k1, z + z1) P) : eWp ox (eEv (d + 1)) eM_L_law (1430, [(0, .retAddr 0), (1, .ref 0), (2, .ref 63), (3, .ref 73), (4, .ref 74), (5, vI i)], [], N, h, k, z) P := by
  refine eW_aload_n 1431 rfl rfl rfl ?_
  refine eW_aload_n_out 1432 rfl rfl rfl ?_
  refine eW_iload 1434 rfl rfl rfl ?_
  refine eW_iconst 1435 rfl rfl ?_
  refine eW_iadd 1436 rfl rfl ?_
  refine eW_iaload_o 1437 rfl rfl (xs (i + 1).toNat) hox (by omega) (by omega) (by unfold i32; omega) rfl ?_
  refine eW_i2c 1438 rfl rfl ch hch ?_
  refine eW_aload_n 1439 rfl rfl rfl ?_
  refine eW_callM 1442 [.ref 0, vI ch, .ref 73] [] (eS_callS rfl rfl (Or.inl rfl) rfl) rfl rfl rfl (by simp only [vI, eClL, eClV, List.all_cons, List.all_nil, Bool.and_true, Bool.and_eq_true, Bool.true_and, Nat.ble_eq]; first | done | omega) (lR_M hL) ?_
  intro v1 n1 h1 a1 b1 f1
  obtain ⟨x1, g1, rfl, hF, ho, hw, hx⟩ := f1
  show eWp _ _ _ (1442, [(0, .retAddr 0), (1, .ref 0), (2, .ref 63), (3, .ref 73), (4, .ref 74), (5, vI i)], [vI x1], _, h1, _, _) _
  refine eW_istore 1444 rfl rfl [(6, vI x1), (0, .retAddr 0), (1, .ref 0), (2, .ref 63), (3, .ref 73), (4, .ref 74), (5, vI i)] rfl rfl ?_
  obtain ⟨hN1, ⟨fs1, e63⟩, hm⟩ := hM _ _ _ _ _ hF ho hw
  refine eW_aload_n 1445 rfl rfl rfl ?_
  refine eW_aload_n_out 1446 rfl rfl rfl ?_
  refine eW_iload 1448 rfl rfl rfl ?_
  refine eW_iconst 1449 rfl rfl ?_
  refine eW_iadd 1450 rfl rfl ?_
  refine eW_iaload_o 1451 rfl rfl (xs (i + 1).toNat) hox (by omega) (by omega) (by unfold i32; omega) rfl ?_
  refine eW_i2c 1452 rfl rfl ch hch ?_
  refine eW_callM 1455 [.ref 63, vI ch] [] (eS_callV rfl rfl rfl (Nat.ble_eq_true_of_le (by omega)) e63 rfl) rfl rfl rfl (by simp only [vI, eClL, eClV, List.all_cons, List.all_nil, Bool.and_true, Bool.and_eq_true, Bool.true_and, Nat.ble_eq]; first | done | omega) (lM_M hm) ?_
  intro v2 n2 h2 a2 b2 f2
  obtain ⟨x2, s2, A2, rfl, rfl, rfl, rfl, hm2, ew, hx2, hFI⟩ := f2
  show eWp _ _ _ (1455, [(6, vI x1), (0, .retAddr 0), (1, .ref 0), (2, .ref 63), (3, .ref 73), (4, .ref 74), (5, vI i)], [vI x2], _, h2, _, _) _
  refine eW_istore 1457 rfl rfl [(7, vI x2), (6, vI x1), (0, .retAddr 0), (1, .ref 0), (2, .ref 63), (3, .ref 73), (4, .ref 74), (5, vI i)] rfl rfl ?_
  refine eW_aload_n 1458 rfl rfl rfl ?_
  refine eW_callM 1461 [.ref 63] [] (eS_callV rfl rfl rfl (Nat.ble_eq_true_of_le (by omega)) hm2.1 rfl) rfl rfl rfl (by simp only [vI, eClL, eClV, List.all_cons, List.all_nil, Bool.and_true, Bool.and_eq_true, Bool.true_and, Nat.ble_eq]; first | done | omega) (eRet_M (m_thrown (d := d) hm2 hN1)) ?_
  intro v3 n3 h3 a3 b3 f3
  obtain ⟨rfl, rfl, rfl, rfl, rfl⟩ := f3
  show eWp _ _ _ (1461, [(7, vI x2), (6, vI x1), (0, .retAddr 0), (1, .ref 0), (2, .ref 63), (3, .ref 73), (4, .ref 74), (5, vI i)], [vI (s2 7)], _, _, _, _) _
  refine eW_iload 1463 rfl rfl rfl ?_
  cases r with
  | inr E =>
    have hE := hr E rfl
    have hx1 : x1 = lCd l E := hx
    have hx3 : s2 7 = lCd l E := hx2
    refine eW_icmp_eqE rfl (hx3.trans hx1.symm) ?_
    refine eW_iload 1470 rfl rfl rfl ?_
    refine eW_if_ne 1473 rfl rfl (by unfold i32; omega) (fun _ => ?_) (fun c9 => absurd (show x1 ≠ 0 by omega) c9)
    refine eW_goto rfl ?_
    refine eW_reU [(0, .retAddr 0), (1, .ref 0), (2, .ref 63), (3, .ref 73), (4, .ref 74), (5, vI i)] rfl rfl (List.forall_mem_cons.mpr ⟨rfl, List.forall_mem_cons.mpr ⟨rfl, List.forall_mem_cons.mpr ⟨rfl, List.forall_mem_cons.mpr ⟨rfl, List.forall_mem_cons.mpr ⟨rfl, List.forall_mem_cons.mpr ⟨rfl, fun _ h => absurd h List.not_mem_nil⟩⟩⟩⟩⟩⟩) (List.forall_mem_cons.mpr ⟨Or.inr (Or.inl ⟨_, rfl⟩), List.forall_mem_cons.mpr ⟨Or.inr (Or.inl ⟨_, rfl⟩), List.forall_mem_cons.mpr ⟨Or.inl rfl, List.forall_mem_cons.mpr ⟨Or.inl rfl, List.forall_mem_cons.mpr ⟨Or.inl rfl, List.forall_mem_cons.mpr ⟨Or.inl rfl, List.forall_mem_cons.mpr ⟨Or.inl rfl, List.forall_mem_cons.mpr ⟨Or.inl rfl, fun _ h => absurd h List.not_mem_nil⟩⟩⟩⟩⟩⟩⟩⟩) ?_
    exact kk n1 a1 b1 _ hFI
  | inl a =>
    obtain ⟨hx1, F9, e9, e90⟩ := hx
    obtain ⟨hx3, hxa⟩ := hx2
    subst hx1; subst hxa
    refine eW_icmp_eqE rfl hx3 ?_
    refine eW_iload 1470 rfl rfl rfl ?_
    refine eW_if_ne 1473 rfl rfl (by unfold i32; omega) (fun c9 => absurd rfl c9) (fun _ => ?_)
    refine eW_aload_n 1474 rfl rfl rfl ?_
    refine eW_iconst 1475 rfl rfl ?_
    refine eW_laloadx 1476 rfl rfl (Int32.ofInt x2).toInt64 (Nat.ble_eq_true_of_le (by omega)) (ew.trans e9) (by omega) (by omega) (by unfold i32; omega) e90 ?_
    refine eW_iload 1478 rfl rfl rfl ?_
    refine eW_i2lx 1479 rfl rfl ?_
    refine eW_lcmpE 1480 rfl rfl rfl ?_
    refine eW_if_eq 1483 rfl rfl (by unfold i32; omega) (fun _ => ?_) (fun c9 => absurd rfl c9)
    refine eW_goto rfl ?_
    refine eW_reU [(0, .retAddr 0), (1, .ref 0), (2, .ref 63), (3, .ref 73), (4, .ref 74), (5, vI i)] rfl rfl (List.forall_mem_cons.mpr ⟨rfl, List.forall_mem_cons.mpr ⟨rfl, List.forall_mem_cons.mpr ⟨rfl, List.forall_mem_cons.mpr ⟨rfl, List.forall_mem_cons.mpr ⟨rfl, List.forall_mem_cons.mpr ⟨rfl, fun _ h => absurd h List.not_mem_nil⟩⟩⟩⟩⟩⟩) (List.forall_mem_cons.mpr ⟨Or.inr (Or.inl ⟨_, rfl⟩), List.forall_mem_cons.mpr ⟨Or.inr (Or.inl ⟨_, rfl⟩), List.forall_mem_cons.mpr ⟨Or.inl rfl, List.forall_mem_cons.mpr ⟨Or.inl rfl, List.forall_mem_cons.mpr ⟨Or.inl rfl, List.forall_mem_cons.mpr ⟨Or.inl rfl, List.forall_mem_cons.mpr ⟨Or.inl rfl, List.forall_mem_cons.mpr ⟨Or.inl rfl, fun _ h => absurd h List.not_mem_nil⟩⟩⟩⟩⟩⟩⟩⟩) ?_
    exact kk n1 a1 b1 _ hFI
set_option maxRecDepth 20000 in
theorem lc_24 {ox : Nat → Option (Nat × Nat × (Nat → Int32))} {d N n k z : Nat} {h : eHp} {xs : Nat → Int} {i : Int} {P : eR → Prop} (hox : ox 0 = some (0, n, eIA xs)) (hxs : ∀ j, i32 (xs j)) (hi : 0 ≤ i ∧ i + 4 ≤ n) (hn : n ≤ 2048) (hN : 75 ≤ N) {r : Int ⊕ String} {l : List String} {FF : Nat → eHp → Nat → Nat → Prop} (hr : ∀ E, r = .inr E → 1 ≤ lCd l E ∧ lCd l E ≤ 3) (hL : eSp (d + 1) eM_L_run [.ref 0, .ref 73] N h (lR 73 lRow73 lH73 r l FF)) {FI : Nat → Nat → Nat → eHp → Prop} (hM : ∀ N1 g1 h1 k1 z1, FF N1 g1 k1 z1 → (∀ i, i ≠ 73 → h1 i = g1 i) → lRow73 (h1 73) → 75 ≤ N1 ∧ (∃ fs, h1 63 = .inr (11, fs)) ∧ eSp (d + 1) eM_X7_run [.ref 63] N1 h1 (lM r l N1 h1 (FI N1 k1 z1))) (kk : ∀ N1 k1 z1 h1, FI N1 k1 z1 h1 → eWp ox (eEv (d + 1)) eM_L_law (1930, [(0, .retAddr 0), (1, .ref 0), (2, .ref 63), (3, .ref 73), (4, .ref 74), (5, vI i)], [], N1, h1, k + k1, z + z1) P) : eWp ox (eEv (d + 1)) eM_L_law (1488, [(0, .retAddr 0), (1, .ref 0), (2, .ref 63), (3, .ref 73), (4, .ref 74), (5, vI i)], [], N, h, k, z) P := by
  refine eW_aload_n 1489 rfl rfl rfl ?_
  refine eW_aload_n 1490 rfl rfl rfl ?_
  refine eW_callM 1493 [.ref 0, .ref 73] [] (eS_callS rfl rfl (Or.inl rfl) rfl) rfl rfl rfl (by simp only [vI, eClL, eClV, List.all_cons, List.all_nil, Bool.and_true, Bool.and_eq_true, Bool.true_and, Nat.ble_eq]; first | done | omega) (lR_M hL) ?_
  intro v1 n1 h1 a1 b1 f1
  obtain ⟨x1, g1, rfl, hF, ho, hw, hx⟩ := f1
  show eWp _ _ _ (1493, [(0, .retAddr 0), (1, .ref 0), (2, .ref 63), (3, .ref 73), (4, .ref 74), (5, vI i)], [vI x1], _, h1, _, _) _
  refine eW_istore 1495 rfl rfl [(6, vI x1), (0, .retAddr 0), (1, .ref 0), (2, .ref 63), (3, .ref 73), (4, .ref 74), (5, vI i)] rfl rfl ?_
  obtain ⟨hN1, ⟨fs1, e63⟩, hm⟩ := hM _ _ _ _ _ hF ho hw
  refine eW_aload_n 1496 rfl rfl rfl ?_
  refine eW_callM 1499 [.ref 63] [] (eS_callV rfl rfl rfl (Nat.ble_eq_true_of_le (by omega)) e63 rfl) rfl rfl rfl (by simp only [vI, eClL, eClV, List.all_cons, List.all_nil, Bool.and_true, Bool.and_eq_true, Bool.true_and, Nat.ble_eq]; first | done | omega) (lM_M hm) ?_
  intro v2 n2 h2 a2 b2 f2
  obtain ⟨x2, s2, A2, rfl, rfl, rfl, rfl, hm2, ew, hx2, hFI⟩ := f2
  show eWp _ _ _ (1499, [(6, vI x1), (0, .retAddr 0), (1, .ref 0), (2, .ref 63), (3, .ref 73), (4, .ref 74), (5, vI i)], [vI x2], _, h2, _, _) _
  refine eW_istore 1501 rfl rfl [(7, vI x2), (6, vI x1), (0, .retAddr 0), (1, .ref 0), (2, .ref 63), (3, .ref 73), (4, .ref 74), (5, vI i)] rfl rfl ?_
  refine eW_aload_n 1502 rfl rfl rfl ?_
  refine eW_callM 1505 [.ref 63] [] (eS_callV rfl rfl rfl (Nat.ble_eq_true_of_le (by omega)) hm2.1 rfl) rfl rfl rfl (by simp only [vI, eClL, eClV, List.all_cons, List.all_nil, Bool.and_true, Bool.and_eq_true, Bool.true_and, Nat.ble_eq]; first | done | omega) (eRet_M (m_thrown (d := d) hm2 hN1)) ?_
  intro v3 n3 h3 a3 b3 f3
  obtain ⟨rfl, rfl, rfl, rfl, rfl⟩ := f3
  show eWp _ _ _ (1505, [(7, vI x2), (6, vI x1), (0, .retAddr 0), (1, .ref 0), (2, .ref 63), (3, .ref 73), (4, .ref 74), (5, vI i)], [vI (s2 7)], _, _, _, _) _
  refine eW_iload 1507 rfl rfl rfl ?_
  cases r with
  | inr E =>
    have hE := hr E rfl
    have hx1 : x1 = lCd l E := hx
    have hx3 : s2 7 = lCd l E := hx2
    refine eW_icmp_eqE rfl (hx3.trans hx1.symm) ?_
    refine eW_iload 1514 rfl rfl rfl ?_
    refine eW_if_ne 1517 rfl rfl (by unfold i32; omega) (fun _ => ?_) (fun c9 => absurd (show x1 ≠ 0 by omega) c9)
    refine eW_goto rfl ?_
    refine eW_reU [(0, .retAddr 0), (1, .ref 0), (2, .ref 63), (3, .ref 73), (4, .ref 74), (5, vI i)] rfl rfl (List.forall_mem_cons.mpr ⟨rfl, List.forall_mem_cons.mpr ⟨rfl, List.forall_mem_cons.mpr ⟨rfl, List.forall_mem_cons.mpr ⟨rfl, List.forall_mem_cons.mpr ⟨rfl, List.forall_mem_cons.mpr ⟨rfl, fun _ h => absurd h List.not_mem_nil⟩⟩⟩⟩⟩⟩) (List.forall_mem_cons.mpr ⟨Or.inr (Or.inl ⟨_, rfl⟩), List.forall_mem_cons.mpr ⟨Or.inr (Or.inl ⟨_, rfl⟩), List.forall_mem_cons.mpr ⟨Or.inl rfl, List.forall_mem_cons.mpr ⟨Or.inl rfl, List.forall_mem_cons.mpr ⟨Or.inl rfl, List.forall_mem_cons.mpr ⟨Or.inl rfl, List.forall_mem_cons.mpr ⟨Or.inl rfl, List.forall_mem_cons.mpr ⟨Or.inl rfl, fun _ h => absurd h List.not_mem_nil⟩⟩⟩⟩⟩⟩⟩⟩) ?_
    exact kk n1 a1 b1 _ hFI
  | inl a =>
    obtain ⟨hx1, F9, e9, e90⟩ := hx
    obtain ⟨hx3, hxa⟩ := hx2
    subst hx1; subst hxa
    refine eW_icmp_eqE rfl hx3 ?_
    refine eW_iload 1514 rfl rfl rfl ?_
    refine eW_if_ne 1517 rfl rfl (by unfold i32; omega) (fun c9 => absurd rfl c9) (fun _ => ?_)
    refine eW_aload_n 1518 rfl rfl rfl ?_
    refine eW_iconst 1519 rfl rfl ?_
    refine eW_laloadx 1520 rfl rfl (Int32.ofInt x2).toInt64 (Nat.ble_eq_true_of_le (by omega)) (ew.trans e9) (by omega) (by omega) (by unfold i32; omega) e90 ?_
    refine eW_iload 1522 rfl rfl rfl ?_
    refine eW_i2lx 1523 rfl rfl ?_
    refine eW_lcmpE 1524 rfl rfl rfl ?_
    refine eW_if_eq 1527 rfl rfl (by unfold i32; omega) (fun _ => ?_) (fun c9 => absurd rfl c9)
    refine eW_goto rfl ?_
    refine eW_reU [(0, .retAddr 0), (1, .ref 0), (2, .ref 63), (3, .ref 73), (4, .ref 74), (5, vI i)] rfl rfl (List.forall_mem_cons.mpr ⟨rfl, List.forall_mem_cons.mpr ⟨rfl, List.forall_mem_cons.mpr ⟨rfl, List.forall_mem_cons.mpr ⟨rfl, List.forall_mem_cons.mpr ⟨rfl, List.forall_mem_cons.mpr ⟨rfl, fun _ h => absurd h List.not_mem_nil⟩⟩⟩⟩⟩⟩) (List.forall_mem_cons.mpr ⟨Or.inr (Or.inl ⟨_, rfl⟩), List.forall_mem_cons.mpr ⟨Or.inr (Or.inl ⟨_, rfl⟩), List.forall_mem_cons.mpr ⟨Or.inl rfl, List.forall_mem_cons.mpr ⟨Or.inl rfl, List.forall_mem_cons.mpr ⟨Or.inl rfl, List.forall_mem_cons.mpr ⟨Or.inl rfl, List.forall_mem_cons.mpr ⟨Or.inl rfl, List.forall_mem_cons.mpr ⟨Or.inl rfl, fun _ h => absurd h List.not_mem_nil⟩⟩⟩⟩⟩⟩⟩⟩) ?_
    exact kk n1 a1 b1 _ hFI
set_option maxRecDepth 20000 in
theorem lc_25 {ox : Nat → Option (Nat × Nat × (Nat → Int32))} {d N n k z : Nat} {h : eHp} {xs : Nat → Int} {i : Int} {P : eR → Prop} (hox : ox 0 = some (0, n, eIA xs)) (hxs : ∀ j, i32 (xs j)) (hi : 0 ≤ i ∧ i + 4 ≤ n) (hn : n ≤ 2048) (hN : 75 ≤ N) {fs : List Value} (h0 : h 0 = .inr (10, fs)) {v : Int} {FF : Nat → eHp → Nat → Nat → Prop} (hL : eSp (d + 1) eM_X6_errorPosition [.ref 0] N h (lB v N FF)) {FI : Nat → Nat → Nat → eHp → Prop} (hM : ∀ N1 h1 k1 z1, FF N1 h1 k1 z1 → 75 ≤ N1 ∧ (∃ fs, h1 63 = .inr (11, fs)) ∧ eSp (d + 1) eM_X7_errorPosition [.ref 63] N1 h1 (lNq v N1 (FI N1 k1 z1))) (kk : ∀ N1 k1 z1 h1, FI N1 k1 z1 h1 → eWp ox (eEv (d + 1)) eM_L_law (1930, [(0, .retAddr 0), (1, .ref 0), (2, .ref 63), (3, .ref 73), (4, .ref 74), (5, vI i)], [], N1, h1, k + k1, z + z1) P) : eWp ox (eEv (d + 1)) eM_L_law (1532, [(0, .retAddr 0), (1, .ref 0), (2, .ref 63), (3, .ref 73), (4, .ref 74), (5, vI i)], [], N, h, k, z) P := by
  refine eW_aload_n 1533 rfl rfl rfl ?_
  refine eW_callM 1536 [.ref 0] [] (eS_callV rfl rfl rfl (Nat.ble_eq_true_of_le (by omega)) h0 rfl) rfl rfl rfl (by simp only [vI, eClL, eClV, List.all_cons, List.all_nil, Bool.and_true, Bool.and_eq_true, Bool.true_and, Nat.ble_eq]; first | done | omega) (lB_M hL) ?_
  intro v1 n1 h1 a1 b1 f1
  obtain ⟨rfl, hle, hF⟩ := f1
  show eWp _ _ _ (1536, [(0, .retAddr 0), (1, .ref 0), (2, .ref 63), (3, .ref 73), (4, .ref 74), (5, vI i)], [vI v], _, h1, _, _) _
  obtain ⟨hN1, ⟨fs1, e63⟩, hm⟩ := hM _ _ _ _ hF
  refine eW_aload_n 1537 rfl rfl rfl ?_
  refine eW_callM 1540 [.ref 63] [vI v] (eS_callV rfl rfl rfl (Nat.ble_eq_true_of_le (by omega)) e63 rfl) rfl rfl rfl (by simp only [vI, eClL, eClV, List.all_cons, List.all_nil, Bool.and_true, Bool.and_eq_true, Bool.true_and, Nat.ble_eq]; first | done | omega) (lNq_M hm) ?_
  intro v2 n2 h2 a2 b2 f2
  obtain ⟨rfl, rfl, rfl, rfl, hFI⟩ := f2
  show eWp _ _ _ (1540, [(0, .retAddr 0), (1, .ref 0), (2, .ref 63), (3, .ref 73), (4, .ref 74), (5, vI i)], [vI v, vI v], _, h2, _, _) _
  refine eW_icmp_eqE rfl rfl ?_
  exact kk n1 a1 b1 _ hFI
set_option maxRecDepth 20000 in
theorem lc_26_0 {ox : Nat → Option (Nat × Nat × (Nat → Int32))} {d N n k z : Nat} {h : eHp} {xs : Nat → Int} {i : Int} {P : eR → Prop} (hox : ox 0 = some (0, n, eIA xs)) (hxs : ∀ j, i32 (xs j)) (hi : 0 ≤ i ∧ i + 4 ≤ n) (hn : n ≤ 2048) (hN : 75 ≤ N) {r : Int ⊕ String} {l : List String} {FF : Nat → eHp → Nat → Nat → Prop} (hr : ∀ E, r = .inr E → 1 ≤ lCd l E ∧ lCd l E ≤ 3) (hz : xs (i + 1).toNat = 0) (hL : eSp (d + 1) eM_L_refusal [.ref 0, vI 0, .ref 73] N h (lR 73 lRow73 lH73 r l FF)) {FI : Nat → Nat → Nat → eHp → Prop} (hM : ∀ N1 g1 h1 k1 z1, FF N1 g1 k1 z1 → (∀ i, i ≠ 73 → h1 i = g1 i) → lRow73 (h1 73) → 75 ≤ N1 ∧ (∃ fs, h1 63 = .inr (11, fs)) ∧ eSp (d + 1) eM_X7_refusal [.ref 63, vI 0] N1 h1 (lM r l N1 h1 (FI N1 k1 z1))) (kk : ∀ N1 k1 z1 h1, FI N1 k1 z1 h1 → eWp ox (eEv (d + 1)) eM_L_law (1930, [(0, .retAddr 0), (1, .ref 0), (2, .ref 63), (3, .ref 73), (4, .ref 74), (5, vI i)], [], N1, h1, k + k1, z + z1) P) : eWp ox (eEv (d + 1)) eM_L_law (1545, [(0, .retAddr 0), (1, .ref 0), (2, .ref 63), (3, .ref 73), (4, .ref 74), (5, vI i)], [], N, h, k, z) P := by
  refine eW_aload_n 1546 rfl rfl rfl ?_
  refine eW_aload_n_out 1547 rfl rfl rfl ?_
  refine eW_iload 1549 rfl rfl rfl ?_
  refine eW_iconst 1550 rfl rfl ?_
  refine eW_iadd 1551 rfl rfl ?_
  refine eW_iaload_o 1552 rfl rfl (xs (i + 1).toNat) hox (by omega) (by omega) (by unfold i32; omega) rfl ?_
  refine eW_if_eq 1555 rfl rfl (hxs _) (fun _ => ?_) (fun c9 => absurd hz c9)
  refine eW_iconst 1560 rfl rfl ?_
  refine eW_aload_n 1561 rfl rfl rfl ?_
  refine eW_callM 1564 [.ref 0, vI 0, .ref 73] [] (eS_callS rfl rfl (Or.inl rfl) rfl) rfl rfl rfl (by simp only [vI, eClL, eClV, List.all_cons, List.all_nil, Bool.and_true, Bool.and_eq_true, Bool.true_and, Nat.ble_eq]; first | done | omega) (lR_M hL) ?_
  intro v1 n1 h1 a1 b1 f1
  obtain ⟨x1, g1, rfl, hF, ho, hw, hx⟩ := f1
  show eWp _ _ _ (1564, [(0, .retAddr 0), (1, .ref 0), (2, .ref 63), (3, .ref 73), (4, .ref 74), (5, vI i)], [vI x1], _, h1, _, _) _
  refine eW_istore 1566 rfl rfl [(6, vI x1), (0, .retAddr 0), (1, .ref 0), (2, .ref 63), (3, .ref 73), (4, .ref 74), (5, vI i)] rfl rfl ?_
  obtain ⟨hN1, ⟨fs1, e63⟩, hm⟩ := hM _ _ _ _ _ hF ho hw
  refine eW_aload_n 1567 rfl rfl rfl ?_
  refine eW_aload_n_out 1568 rfl rfl rfl ?_
  refine eW_iload 1570 rfl rfl rfl ?_
  refine eW_iconst 1571 rfl rfl ?_
  refine eW_iadd 1572 rfl rfl ?_
  refine eW_iaload_o 1573 rfl rfl (xs (i + 1).toNat) hox (by omega) (by omega) (by unfold i32; omega) rfl ?_
  refine eW_if_eq 1576 rfl rfl (hxs _) (fun _ => ?_) (fun c9 => absurd hz c9)
  refine eW_iconst 1581 rfl rfl ?_
  refine eW_callM 1584 [.ref 63, vI 0] [] (eS_callV rfl rfl rfl (Nat.ble_eq_true_of_le (by omega)) e63 rfl) rfl rfl rfl (by simp only [vI, eClL, eClV, List.all_cons, List.all_nil, Bool.and_true, Bool.and_eq_true, Bool.true_and, Nat.ble_eq]; first | done | omega) (lM_M hm) ?_
  intro v2 n2 h2 a2 b2 f2
  obtain ⟨x2, s2, A2, rfl, rfl, rfl, rfl, hm2, ew, hx2, hFI⟩ := f2
  show eWp _ _ _ (1584, [(6, vI x1), (0, .retAddr 0), (1, .ref 0), (2, .ref 63), (3, .ref 73), (4, .ref 74), (5, vI i)], [vI x2], _, h2, _, _) _
  refine eW_istore 1586 rfl rfl [(7, vI x2), (6, vI x1), (0, .retAddr 0), (1, .ref 0), (2, .ref 63), (3, .ref 73), (4, .ref 74), (5, vI i)] rfl rfl ?_
  refine eW_aload_n 1587 rfl rfl rfl ?_
  refine eW_callM 1590 [.ref 63] [] (eS_callV rfl rfl rfl (Nat.ble_eq_true_of_le (by omega)) hm2.1 rfl) rfl rfl rfl (by simp only [vI, eClL, eClV, List.all_cons, List.all_nil, Bool.and_true, Bool.and_eq_true, Bool.true_and, Nat.ble_eq]; first | done | omega) (eRet_M (m_thrown (d := d) hm2 hN1)) ?_
  intro v3 n3 h3 a3 b3 f3
  obtain ⟨rfl, rfl, rfl, rfl, rfl⟩ := f3
  show eWp _ _ _ (1590, [(7, vI x2), (6, vI x1), (0, .retAddr 0), (1, .ref 0), (2, .ref 63), (3, .ref 73), (4, .ref 74), (5, vI i)], [vI (s2 7)], _, _, _, _) _
  refine eW_iload 1592 rfl rfl rfl ?_
  cases r with
  | inr E =>
    have hE := hr E rfl
    have hx1 : x1 = lCd l E := hx
    have hx3 : s2 7 = lCd l E := hx2
    refine eW_icmp_eqE rfl (hx3.trans hx1.symm) ?_
    refine eW_iload 1599 rfl rfl rfl ?_
    refine eW_if_ne 1602 rfl rfl (by unfold i32; omega) (fun _ => ?_) (fun c9 => absurd (show x1 ≠ 0 by omega) c9)
    refine eW_goto rfl ?_
    refine eW_reU [(0, .retAddr 0), (1, .ref 0), (2, .ref 63), (3, .ref 73), (4, .ref 74), (5, vI i)] rfl rfl (List.forall_mem_cons.mpr ⟨rfl, List.forall_mem_cons.mpr ⟨rfl, List.forall_mem_cons.mpr ⟨rfl, List.forall_mem_cons.mpr ⟨rfl, List.forall_mem_cons.mpr ⟨rfl, List.forall_mem_cons.mpr ⟨rfl, fun _ h => absurd h List.not_mem_nil⟩⟩⟩⟩⟩⟩) (List.forall_mem_cons.mpr ⟨Or.inr (Or.inl ⟨_, rfl⟩), List.forall_mem_cons.mpr ⟨Or.inr (Or.inl ⟨_, rfl⟩), List.forall_mem_cons.mpr ⟨Or.inl rfl, List.forall_mem_cons.mpr ⟨Or.inl rfl, List.forall_mem_cons.mpr ⟨Or.inl rfl, List.forall_mem_cons.mpr ⟨Or.inl rfl, List.forall_mem_cons.mpr ⟨Or.inl rfl, List.forall_mem_cons.mpr ⟨Or.inl rfl, fun _ h => absurd h List.not_mem_nil⟩⟩⟩⟩⟩⟩⟩⟩) ?_
    exact kk n1 a1 b1 _ hFI
  | inl a =>
    obtain ⟨hx1, F9, e9, e90⟩ := hx
    obtain ⟨hx3, hxa⟩ := hx2
    subst hx1; subst hxa
    refine eW_icmp_eqE rfl hx3 ?_
    refine eW_iload 1599 rfl rfl rfl ?_
    refine eW_if_ne 1602 rfl rfl (by unfold i32; omega) (fun c9 => absurd rfl c9) (fun _ => ?_)
    refine eW_aload_n 1603 rfl rfl rfl ?_
    refine eW_iconst 1604 rfl rfl ?_
    refine eW_laloadx 1605 rfl rfl (Int32.ofInt x2).toInt64 (Nat.ble_eq_true_of_le (by omega)) (ew.trans e9) (by omega) (by omega) (by unfold i32; omega) e90 ?_
    refine eW_iload 1607 rfl rfl rfl ?_
    refine eW_i2lx 1608 rfl rfl ?_
    refine eW_lcmpE 1609 rfl rfl rfl ?_
    refine eW_if_eq 1612 rfl rfl (by unfold i32; omega) (fun _ => ?_) (fun c9 => absurd rfl c9)
    refine eW_goto rfl ?_
    refine eW_reU [(0, .retAddr 0), (1, .ref 0), (2, .ref 63), (3, .ref 73), (4, .ref 74), (5, vI i)] rfl rfl (List.forall_mem_cons.mpr ⟨rfl, List.forall_mem_cons.mpr ⟨rfl, List.forall_mem_cons.mpr ⟨rfl, List.forall_mem_cons.mpr ⟨rfl, List.forall_mem_cons.mpr ⟨rfl, List.forall_mem_cons.mpr ⟨rfl, fun _ h => absurd h List.not_mem_nil⟩⟩⟩⟩⟩⟩) (List.forall_mem_cons.mpr ⟨Or.inr (Or.inl ⟨_, rfl⟩), List.forall_mem_cons.mpr ⟨Or.inr (Or.inl ⟨_, rfl⟩), List.forall_mem_cons.mpr ⟨Or.inl rfl, List.forall_mem_cons.mpr ⟨Or.inl rfl, List.forall_mem_cons.mpr ⟨Or.inl rfl, List.forall_mem_cons.mpr ⟨Or.inl rfl, List.forall_mem_cons.mpr ⟨Or.inl rfl, List.forall_mem_cons.mpr ⟨Or.inl rfl, fun _ h => absurd h List.not_mem_nil⟩⟩⟩⟩⟩⟩⟩⟩) ?_
    exact kk n1 a1 b1 _ hFI
set_option maxRecDepth 20000 in
theorem lc_26_1 {ox : Nat → Option (Nat × Nat × (Nat → Int32))} {d N n k z : Nat} {h : eHp} {xs : Nat → Int} {i : Int} {P : eR → Prop} (hox : ox 0 = some (0, n, eIA xs)) (hxs : ∀ j, i32 (xs j)) (hi : 0 ≤ i ∧ i + 4 ≤ n) (hn : n ≤ 2048) (hN : 75 ≤ N) {r : Int ⊕ String} {l : List String} {FF : Nat → eHp → Nat → Nat → Prop} (hr : ∀ E, r = .inr E → 1 ≤ lCd l E ∧ lCd l E ≤ 3) (hz : xs (i + 1).toNat ≠ 0) (hL : eSp (d + 1) eM_L_refusal [.ref 0, vI 1, .ref 73] N h (lR 73 lRow73 lH73 r l FF)) {FI : Nat → Nat → Nat → eHp → Prop} (hM : ∀ N1 g1 h1 k1 z1, FF N1 g1 k1 z1 → (∀ i, i ≠ 73 → h1 i = g1 i) → lRow73 (h1 73) → 75 ≤ N1 ∧ (∃ fs, h1 63 = .inr (11, fs)) ∧ eSp (d + 1) eM_X7_refusal [.ref 63, vI 1] N1 h1 (lM r l N1 h1 (FI N1 k1 z1))) (kk : ∀ N1 k1 z1 h1, FI N1 k1 z1 h1 → eWp ox (eEv (d + 1)) eM_L_law (1930, [(0, .retAddr 0), (1, .ref 0), (2, .ref 63), (3, .ref 73), (4, .ref 74), (5, vI i)], [], N1, h1, k + k1, z + z1) P) : eWp ox (eEv (d + 1)) eM_L_law (1545, [(0, .retAddr 0), (1, .ref 0), (2, .ref 63), (3, .ref 73), (4, .ref 74), (5, vI i)], [], N, h, k, z) P := by
  refine eW_aload_n 1546 rfl rfl rfl ?_
  refine eW_aload_n_out 1547 rfl rfl rfl ?_
  refine eW_iload 1549 rfl rfl rfl ?_
  refine eW_iconst 1550 rfl rfl ?_
  refine eW_iadd 1551 rfl rfl ?_
  refine eW_iaload_o 1552 rfl rfl (xs (i + 1).toNat) hox (by omega) (by omega) (by unfold i32; omega) rfl ?_
  refine eW_if_eq 1555 rfl rfl (hxs _) (fun c9 => absurd c9 hz) (fun _ => ?_)
  refine eW_iconst 1556 rfl rfl ?_
  refine eW_goto rfl ?_
  refine eW_aload_n 1561 rfl rfl rfl ?_
  refine eW_callM 1564 [.ref 0, vI 1, .ref 73] [] (eS_callS rfl rfl (Or.inl rfl) rfl) rfl rfl rfl (by simp only [vI, eClL, eClV, List.all_cons, List.all_nil, Bool.and_true, Bool.and_eq_true, Bool.true_and, Nat.ble_eq]; first | done | omega) (lR_M hL) ?_
  intro v1 n1 h1 a1 b1 f1
  obtain ⟨x1, g1, rfl, hF, ho, hw, hx⟩ := f1
  show eWp _ _ _ (1564, [(0, .retAddr 0), (1, .ref 0), (2, .ref 63), (3, .ref 73), (4, .ref 74), (5, vI i)], [vI x1], _, h1, _, _) _
  refine eW_istore 1566 rfl rfl [(6, vI x1), (0, .retAddr 0), (1, .ref 0), (2, .ref 63), (3, .ref 73), (4, .ref 74), (5, vI i)] rfl rfl ?_
  obtain ⟨hN1, ⟨fs1, e63⟩, hm⟩ := hM _ _ _ _ _ hF ho hw
  refine eW_aload_n 1567 rfl rfl rfl ?_
  refine eW_aload_n_out 1568 rfl rfl rfl ?_
  refine eW_iload 1570 rfl rfl rfl ?_
  refine eW_iconst 1571 rfl rfl ?_
  refine eW_iadd 1572 rfl rfl ?_
  refine eW_iaload_o 1573 rfl rfl (xs (i + 1).toNat) hox (by omega) (by omega) (by unfold i32; omega) rfl ?_
  refine eW_if_eq 1576 rfl rfl (hxs _) (fun c9 => absurd c9 hz) (fun _ => ?_)
  refine eW_iconst 1577 rfl rfl ?_
  refine eW_goto rfl ?_
  refine eW_callM 1584 [.ref 63, vI 1] [] (eS_callV rfl rfl rfl (Nat.ble_eq_true_of_le (by omega)) e63 rfl) rfl rfl rfl (by simp only [vI, eClL, eClV, List.all_cons, List.all_nil, Bool.and_true, Bool.and_eq_true, Bool.true_and, Nat.ble_eq]; first | done | omega) (lM_M hm) ?_
  intro v2 n2 h2 a2 b2 f2
  obtain ⟨x2, s2, A2, rfl, rfl, rfl, rfl, hm2, ew, hx2, hFI⟩ := f2
  show eWp _ _ _ (1584, [(6, vI x1), (0, .retAddr 0), (1, .ref 0), (2, .ref 63), (3, .ref 73), (4, .ref 74), (5, vI i)], [vI x2], _, h2, _, _) _
  refine eW_istore 1586 rfl rfl [(7, vI x2), (6, vI x1), (0, .retAddr 0), (1, .ref 0), (2, .ref 63), (3, .ref 73), (4, .ref 74), (5, vI i)] rfl rfl ?_
  refine eW_aload_n 1587 rfl rfl rfl ?_
  refine eW_callM 1590 [.ref 63] [] (eS_callV rfl rfl rfl (Nat.ble_eq_true_of_le (by omega)) hm2.1 rfl) rfl rfl rfl (by simp only [vI, eClL, eClV, List.all_cons, List.all_nil, Bool.and_true, Bool.and_eq_true, Bool.true_and, Nat.ble_eq]; first | done | omega) (eRet_M (m_thrown (d := d) hm2 hN1)) ?_
  intro v3 n3 h3 a3 b3 f3
  obtain ⟨rfl, rfl, rfl, rfl, rfl⟩ := f3
  show eWp _ _ _ (1590, [(7, vI x2), (6, vI x1), (0, .retAddr 0), (1, .ref 0), (2, .ref 63), (3, .ref 73), (4, .ref 74), (5, vI i)], [vI (s2 7)], _, _, _, _) _
  refine eW_iload 1592 rfl rfl rfl ?_
  cases r with
  | inr E =>
    have hE := hr E rfl
    have hx1 : x1 = lCd l E := hx
    have hx3 : s2 7 = lCd l E := hx2
    refine eW_icmp_eqE rfl (hx3.trans hx1.symm) ?_
    refine eW_iload 1599 rfl rfl rfl ?_
    refine eW_if_ne 1602 rfl rfl (by unfold i32; omega) (fun _ => ?_) (fun c9 => absurd (show x1 ≠ 0 by omega) c9)
    refine eW_goto rfl ?_
    refine eW_reU [(0, .retAddr 0), (1, .ref 0), (2, .ref 63), (3, .ref 73), (4, .ref 74), (5, vI i)] rfl rfl (List.forall_mem_cons.mpr ⟨rfl, List.forall_mem_cons.mpr ⟨rfl, List.forall_mem_cons.mpr ⟨rfl, List.forall_mem_cons.mpr ⟨rfl, List.forall_mem_cons.mpr ⟨rfl, List.forall_mem_cons.mpr ⟨rfl, fun _ h => absurd h List.not_mem_nil⟩⟩⟩⟩⟩⟩) (List.forall_mem_cons.mpr ⟨Or.inr (Or.inl ⟨_, rfl⟩), List.forall_mem_cons.mpr ⟨Or.inr (Or.inl ⟨_, rfl⟩), List.forall_mem_cons.mpr ⟨Or.inl rfl, List.forall_mem_cons.mpr ⟨Or.inl rfl, List.forall_mem_cons.mpr ⟨Or.inl rfl, List.forall_mem_cons.mpr ⟨Or.inl rfl, List.forall_mem_cons.mpr ⟨Or.inl rfl, List.forall_mem_cons.mpr ⟨Or.inl rfl, fun _ h => absurd h List.not_mem_nil⟩⟩⟩⟩⟩⟩⟩⟩) ?_
    exact kk n1 a1 b1 _ hFI
  | inl a =>
    obtain ⟨hx1, F9, e9, e90⟩ := hx
    obtain ⟨hx3, hxa⟩ := hx2
    subst hx1; subst hxa
    refine eW_icmp_eqE rfl hx3 ?_
    refine eW_iload 1599 rfl rfl rfl ?_
    refine eW_if_ne 1602 rfl rfl (by unfold i32; omega) (fun c9 => absurd rfl c9) (fun _ => ?_)
    refine eW_aload_n 1603 rfl rfl rfl ?_
    refine eW_iconst 1604 rfl rfl ?_
    refine eW_laloadx 1605 rfl rfl (Int32.ofInt x2).toInt64 (Nat.ble_eq_true_of_le (by omega)) (ew.trans e9) (by omega) (by omega) (by unfold i32; omega) e90 ?_
    refine eW_iload 1607 rfl rfl rfl ?_
    refine eW_i2lx 1608 rfl rfl ?_
    refine eW_lcmpE 1609 rfl rfl rfl ?_
    refine eW_if_eq 1612 rfl rfl (by unfold i32; omega) (fun _ => ?_) (fun c9 => absurd rfl c9)
    refine eW_goto rfl ?_
    refine eW_reU [(0, .retAddr 0), (1, .ref 0), (2, .ref 63), (3, .ref 73), (4, .ref 74), (5, vI i)] rfl rfl (List.forall_mem_cons.mpr ⟨rfl, List.forall_mem_cons.mpr ⟨rfl, List.forall_mem_cons.mpr ⟨rfl, List.forall_mem_cons.mpr ⟨rfl, List.forall_mem_cons.mpr ⟨rfl, List.forall_mem_cons.mpr ⟨rfl, fun _ h => absurd h List.not_mem_nil⟩⟩⟩⟩⟩⟩) (List.forall_mem_cons.mpr ⟨Or.inr (Or.inl ⟨_, rfl⟩), List.forall_mem_cons.mpr ⟨Or.inr (Or.inl ⟨_, rfl⟩), List.forall_mem_cons.mpr ⟨Or.inl rfl, List.forall_mem_cons.mpr ⟨Or.inl rfl, List.forall_mem_cons.mpr ⟨Or.inl rfl, List.forall_mem_cons.mpr ⟨Or.inl rfl, List.forall_mem_cons.mpr ⟨Or.inl rfl, List.forall_mem_cons.mpr ⟨Or.inl rfl, fun _ h => absurd h List.not_mem_nil⟩⟩⟩⟩⟩⟩⟩⟩) ?_
    exact kk n1 a1 b1 _ hFI
set_option maxRecDepth 20000 in
theorem lc_27 {ox : Nat → Option (Nat × Nat × (Nat → Int32))} {d N n k z : Nat} {h : eHp} {xs : Nat → Int} {i : Int} {P : eR → Prop} (hox : ox 0 = some (0, n, eIA xs)) (hxs : ∀ j, i32 (xs j)) (hi : 0 ≤ i ∧ i + 4 ≤ n) (hn : n ≤ 2048) (hN : 75 ≤ N) {r : Int ⊕ String} {l : List String} {FF : Nat → eHp → Nat → Nat → Prop} (hr : ∀ E, r = .inr E → 1 ≤ lCd l E ∧ lCd l E ≤ 3) (hL : eSp (d + 1) eM_L_account [.ref 0, vI (xs (i + 1).toNat), .ref 73] N h (lR 73 lRow73 lH73 r l FF)) {FI : Nat → Nat → Nat → eHp → Prop} (hM : ∀ N1 g1 h1 k1 z1, FF N1 g1 k1 z1 → (∀ i, i ≠ 73 → h1 i = g1 i) → lRow73 (h1 73) → 75 ≤ N1 ∧ (∃ fs, h1 63 = .inr (11, fs)) ∧ eSp (d + 1) eM_X7_account [.ref 63, vI (xs (i + 1).toNat)] N1 h1 (lM r l N1 h1 (FI N1 k1 z1))) (kk : ∀ N1 k1 z1 h1, FI N1 k1 z1 h1 → eWp ox (eEv (d + 1)) eM_L_law (1930, [(0, .retAddr 0), (1, .ref 0), (2, .ref 63), (3, .ref 73), (4, .ref 74), (5, vI i)], [], N1, h1, k + k1, z + z1) P) : eWp ox (eEv (d + 1)) eM_L_law (1617, [(0, .retAddr 0), (1, .ref 0), (2, .ref 63), (3, .ref 73), (4, .ref 74), (5, vI i)], [], N, h, k, z) P := by
  refine eW_aload_n 1618 rfl rfl rfl ?_
  refine eW_aload_n_out 1619 rfl rfl rfl ?_
  refine eW_iload 1621 rfl rfl rfl ?_
  refine eW_iconst 1622 rfl rfl ?_
  refine eW_iadd 1623 rfl rfl ?_
  refine eW_iaload_o 1624 rfl rfl (xs (i + 1).toNat) hox (by omega) (by omega) (by unfold i32; omega) rfl ?_
  refine eW_aload_n 1625 rfl rfl rfl ?_
  refine eW_callM 1628 [.ref 0, vI (xs (i + 1).toNat), .ref 73] [] (eS_callS rfl rfl (Or.inl rfl) rfl) rfl rfl rfl (by simp only [vI, eClL, eClV, List.all_cons, List.all_nil, Bool.and_true, Bool.and_eq_true, Bool.true_and, Nat.ble_eq]; first | done | omega) (lR_M hL) ?_
  intro v1 n1 h1 a1 b1 f1
  obtain ⟨x1, g1, rfl, hF, ho, hw, hx⟩ := f1
  show eWp _ _ _ (1628, [(0, .retAddr 0), (1, .ref 0), (2, .ref 63), (3, .ref 73), (4, .ref 74), (5, vI i)], [vI x1], _, h1, _, _) _
  refine eW_istore 1630 rfl rfl [(6, vI x1), (0, .retAddr 0), (1, .ref 0), (2, .ref 63), (3, .ref 73), (4, .ref 74), (5, vI i)] rfl rfl ?_
  obtain ⟨hN1, ⟨fs1, e63⟩, hm⟩ := hM _ _ _ _ _ hF ho hw
  refine eW_aload_n 1631 rfl rfl rfl ?_
  refine eW_aload_n_out 1632 rfl rfl rfl ?_
  refine eW_iload 1634 rfl rfl rfl ?_
  refine eW_iconst 1635 rfl rfl ?_
  refine eW_iadd 1636 rfl rfl ?_
  refine eW_iaload_o 1637 rfl rfl (xs (i + 1).toNat) hox (by omega) (by omega) (by unfold i32; omega) rfl ?_
  refine eW_callM 1640 [.ref 63, vI (xs (i + 1).toNat)] [] (eS_callV rfl rfl rfl (Nat.ble_eq_true_of_le (by omega)) e63 rfl) rfl rfl rfl (by simp only [vI, eClL, eClV, List.all_cons, List.all_nil, Bool.and_true, Bool.and_eq_true, Bool.true_and, Nat.ble_eq]; first | done | omega) (lM_M hm) ?_
  intro v2 n2 h2 a2 b2 f2
  obtain ⟨x2, s2, A2, rfl, rfl, rfl, rfl, hm2, ew, hx2, hFI⟩ := f2
  show eWp _ _ _ (1640, [(6, vI x1), (0, .retAddr 0), (1, .ref 0), (2, .ref 63), (3, .ref 73), (4, .ref 74), (5, vI i)], [vI x2], _, h2, _, _) _
  refine eW_istore 1642 rfl rfl [(7, vI x2), (6, vI x1), (0, .retAddr 0), (1, .ref 0), (2, .ref 63), (3, .ref 73), (4, .ref 74), (5, vI i)] rfl rfl ?_
  refine eW_aload_n 1643 rfl rfl rfl ?_
  refine eW_callM 1646 [.ref 63] [] (eS_callV rfl rfl rfl (Nat.ble_eq_true_of_le (by omega)) hm2.1 rfl) rfl rfl rfl (by simp only [vI, eClL, eClV, List.all_cons, List.all_nil, Bool.and_true, Bool.and_eq_true, Bool.true_and, Nat.ble_eq]; first | done | omega) (eRet_M (m_thrown (d := d) hm2 hN1)) ?_
  intro v3 n3 h3 a3 b3 f3
  obtain ⟨rfl, rfl, rfl, rfl, rfl⟩ := f3
  show eWp _ _ _ (1646, [(7, vI x2), (6, vI x1), (0, .retAddr 0), (1, .ref 0), (2, .ref 63), (3, .ref 73), (4, .ref 74), (5, vI i)], [vI (s2 7)], _, _, _, _) _
  refine eW_iload 1648 rfl rfl rfl ?_
  cases r with
  | inr E =>
    have hE := hr E rfl
    have hx1 : x1 = lCd l E := hx
    have hx3 : s2 7 = lCd l E := hx2
    refine eW_icmp_eqE rfl (hx3.trans hx1.symm) ?_
    refine eW_iload 1655 rfl rfl rfl ?_
    refine eW_if_ne 1658 rfl rfl (by unfold i32; omega) (fun _ => ?_) (fun c9 => absurd (show x1 ≠ 0 by omega) c9)
    refine eW_goto rfl ?_
    refine eW_reU [(0, .retAddr 0), (1, .ref 0), (2, .ref 63), (3, .ref 73), (4, .ref 74), (5, vI i)] rfl rfl (List.forall_mem_cons.mpr ⟨rfl, List.forall_mem_cons.mpr ⟨rfl, List.forall_mem_cons.mpr ⟨rfl, List.forall_mem_cons.mpr ⟨rfl, List.forall_mem_cons.mpr ⟨rfl, List.forall_mem_cons.mpr ⟨rfl, fun _ h => absurd h List.not_mem_nil⟩⟩⟩⟩⟩⟩) (List.forall_mem_cons.mpr ⟨Or.inr (Or.inl ⟨_, rfl⟩), List.forall_mem_cons.mpr ⟨Or.inr (Or.inl ⟨_, rfl⟩), List.forall_mem_cons.mpr ⟨Or.inl rfl, List.forall_mem_cons.mpr ⟨Or.inl rfl, List.forall_mem_cons.mpr ⟨Or.inl rfl, List.forall_mem_cons.mpr ⟨Or.inl rfl, List.forall_mem_cons.mpr ⟨Or.inl rfl, List.forall_mem_cons.mpr ⟨Or.inl rfl, fun _ h => absurd h List.not_mem_nil⟩⟩⟩⟩⟩⟩⟩⟩) ?_
    exact kk n1 a1 b1 _ hFI
  | inl a =>
    obtain ⟨hx1, F9, e9, e90⟩ := hx
    obtain ⟨hx3, hxa⟩ := hx2
    subst hx1; subst hxa
    refine eW_icmp_eqE rfl hx3 ?_
    refine eW_iload 1655 rfl rfl rfl ?_
    refine eW_if_ne 1658 rfl rfl (by unfold i32; omega) (fun c9 => absurd rfl c9) (fun _ => ?_)
    refine eW_aload_n 1659 rfl rfl rfl ?_
    refine eW_iconst 1660 rfl rfl ?_
    refine eW_laloadx 1661 rfl rfl (Int32.ofInt x2).toInt64 (Nat.ble_eq_true_of_le (by omega)) (ew.trans e9) (by omega) (by omega) (by unfold i32; omega) e90 ?_
    refine eW_iload 1663 rfl rfl rfl ?_
    refine eW_i2lx 1664 rfl rfl ?_
    refine eW_lcmpE 1665 rfl rfl rfl ?_
    refine eW_if_eq 1668 rfl rfl (by unfold i32; omega) (fun _ => ?_) (fun c9 => absurd rfl c9)
    refine eW_goto rfl ?_
    refine eW_reU [(0, .retAddr 0), (1, .ref 0), (2, .ref 63), (3, .ref 73), (4, .ref 74), (5, vI i)] rfl rfl (List.forall_mem_cons.mpr ⟨rfl, List.forall_mem_cons.mpr ⟨rfl, List.forall_mem_cons.mpr ⟨rfl, List.forall_mem_cons.mpr ⟨rfl, List.forall_mem_cons.mpr ⟨rfl, List.forall_mem_cons.mpr ⟨rfl, fun _ h => absurd h List.not_mem_nil⟩⟩⟩⟩⟩⟩) (List.forall_mem_cons.mpr ⟨Or.inr (Or.inl ⟨_, rfl⟩), List.forall_mem_cons.mpr ⟨Or.inr (Or.inl ⟨_, rfl⟩), List.forall_mem_cons.mpr ⟨Or.inl rfl, List.forall_mem_cons.mpr ⟨Or.inl rfl, List.forall_mem_cons.mpr ⟨Or.inl rfl, List.forall_mem_cons.mpr ⟨Or.inl rfl, List.forall_mem_cons.mpr ⟨Or.inl rfl, List.forall_mem_cons.mpr ⟨Or.inl rfl, fun _ h => absurd h List.not_mem_nil⟩⟩⟩⟩⟩⟩⟩⟩) ?_
    exact kk n1 a1 b1 _ hFI
set_option maxRecDepth 20000 in
theorem lc_28 {ox : Nat → Option (Nat × Nat × (Nat → Int32))} {d N n k z : Nat} {h : eHp} {xs : Nat → Int} {i : Int} {P : eR → Prop} (hox : ox 0 = some (0, n, eIA xs)) (hxs : ∀ j, i32 (xs j)) (hi : 0 ≤ i ∧ i + 4 ≤ n) (hn : n ≤ 2048) (hN : 75 ≤ N) {fs : List Value} (h0 : h 0 = .inr (10, fs)) {v : Int} {FF : Nat → eHp → Nat → Nat → Prop} (hL : eSp (d + 1) eM_X6_isWell [.ref 0] N h (lB v N FF)) {FI : Nat → Nat → Nat → eHp → Prop} (hM : ∀ N1 h1 k1 z1, FF N1 h1 k1 z1 → 75 ≤ N1 ∧ (∃ fs, h1 63 = .inr (11, fs)) ∧ eSp (d + 1) eM_X7_isWell [.ref 63] N1 h1 (lNq v N1 (FI N1 k1 z1))) (kk : ∀ N1 k1 z1 h1, FI N1 k1 z1 h1 → eWp ox (eEv (d + 1)) eM_L_law (1930, [(0, .retAddr 0), (1, .ref 0), (2, .ref 63), (3, .ref 73), (4, .ref 74), (5, vI i)], [], N1, h1, k + k1, z + z1) P) : eWp ox (eEv (d + 1)) eM_L_law (1673, [(0, .retAddr 0), (1, .ref 0), (2, .ref 63), (3, .ref 73), (4, .ref 74), (5, vI i)], [], N, h, k, z) P := by
  refine eW_aload_n 1674 rfl rfl rfl ?_
  refine eW_callM 1677 [.ref 0] [] (eS_callV rfl rfl rfl (Nat.ble_eq_true_of_le (by omega)) h0 rfl) rfl rfl rfl (by simp only [vI, eClL, eClV, List.all_cons, List.all_nil, Bool.and_true, Bool.and_eq_true, Bool.true_and, Nat.ble_eq]; first | done | omega) (lB_M hL) ?_
  intro v1 n1 h1 a1 b1 f1
  obtain ⟨rfl, hle, hF⟩ := f1
  show eWp _ _ _ (1677, [(0, .retAddr 0), (1, .ref 0), (2, .ref 63), (3, .ref 73), (4, .ref 74), (5, vI i)], [vI v], _, h1, _, _) _
  obtain ⟨hN1, ⟨fs1, e63⟩, hm⟩ := hM _ _ _ _ hF
  refine eW_aload_n 1678 rfl rfl rfl ?_
  refine eW_callM 1681 [.ref 63] [vI v] (eS_callV rfl rfl rfl (Nat.ble_eq_true_of_le (by omega)) e63 rfl) rfl rfl rfl (by simp only [vI, eClL, eClV, List.all_cons, List.all_nil, Bool.and_true, Bool.and_eq_true, Bool.true_and, Nat.ble_eq]; first | done | omega) (lNq_M hm) ?_
  intro v2 n2 h2 a2 b2 f2
  obtain ⟨rfl, rfl, rfl, rfl, hFI⟩ := f2
  show eWp _ _ _ (1681, [(0, .retAddr 0), (1, .ref 0), (2, .ref 63), (3, .ref 73), (4, .ref 74), (5, vI i)], [vI v, vI v], _, h2, _, _) _
  refine eW_icmp_eqE rfl rfl ?_
  exact kk n1 a1 b1 _ hFI
set_option maxRecDepth 20000 in
theorem lc_29 {ox : Nat → Option (Nat × Nat × (Nat → Int32))} {d N n k z : Nat} {h : eHp} {xs : Nat → Int} {i : Int} {P : eR → Prop} (hox : ox 0 = some (0, n, eIA xs)) (hxs : ∀ j, i32 (xs j)) (hi : 0 ≤ i ∧ i + 4 ≤ n) (hn : n ≤ 2048) (hN : 75 ≤ N) {r : UInt64 ⊕ String} {l : List String} {FF : Nat → eHp → Nat → Nat → Prop} (hr : ∀ E, r = .inr E → 1 ≤ lCd l E ∧ lCd l E ≤ 3) (hb : ∀ a, r = .inl a → a.toNat % 9223372036854775808 ≤ 9218868437227405312) (hL : eSp (d + 1) eM_L_meanMarbles [.ref 0, .ref 74] N h (lR 74 lRow74 lH74 r l FF)) {FI : Nat → Nat → Nat → eHp → Prop} (hM : ∀ N1 g1 h1 k1 z1, FF N1 g1 k1 z1 → (∀ i, i ≠ 74 → h1 i = g1 i) → lRow74 (h1 74) → 75 ≤ N1 ∧ (∃ fs, h1 63 = .inr (11, fs)) ∧ eSp (d + 1) eM_X7_meanMarbles [.ref 63] N1 h1 (lMD r l N1 h1 (FI N1 k1 z1))) (kk : ∀ N1 k1 z1 h1, FI N1 k1 z1 h1 → eWp ox (eEv (d + 1)) eM_L_law (1930, [(0, .retAddr 0), (1, .ref 0), (2, .ref 63), (3, .ref 73), (4, .ref 74), (5, vI i)], [], N1, h1, k + k1, z + z1) P) : eWp ox (eEv (d + 1)) eM_L_law (1686, [(0, .retAddr 0), (1, .ref 0), (2, .ref 63), (3, .ref 73), (4, .ref 74), (5, vI i)], [], N, h, k, z) P := by
  refine eW_aload_n 1687 rfl rfl rfl ?_
  refine eW_aload 1689 rfl rfl rfl ?_
  refine eW_callM 1692 [.ref 0, .ref 74] [] (eS_callS rfl rfl (Or.inl rfl) rfl) rfl rfl rfl (by simp only [vI, eClL, eClV, List.all_cons, List.all_nil, Bool.and_true, Bool.and_eq_true, Bool.true_and, Nat.ble_eq]; first | done | omega) (lR_M hL) ?_
  intro v1 n1 h1 a1 b1 f1
  obtain ⟨x1, g1, rfl, hF, ho, hw, hx⟩ := f1
  show eWp _ _ _ (1692, [(0, .retAddr 0), (1, .ref 0), (2, .ref 63), (3, .ref 73), (4, .ref 74), (5, vI i)], [vI x1], _, h1, _, _) _
  refine eW_istore 1694 rfl rfl [(6, vI x1), (0, .retAddr 0), (1, .ref 0), (2, .ref 63), (3, .ref 73), (4, .ref 74), (5, vI i)] rfl rfl ?_
  obtain ⟨hN1, ⟨fs1, e63⟩, hm⟩ := hM _ _ _ _ _ hF ho hw
  refine eW_aload_n 1695 rfl rfl rfl ?_
  refine eW_callM 1698 [.ref 63] [] (eS_callV rfl rfl rfl (Nat.ble_eq_true_of_le (by omega)) e63 rfl) rfl rfl rfl (by simp only [vI, eClL, eClV, List.all_cons, List.all_nil, Bool.and_true, Bool.and_eq_true, Bool.true_and, Nat.ble_eq]; first | done | omega) (lMD_M hm) ?_
  intro v2 n2 h2 a2 b2 f2
  obtain ⟨x2, s2, A2, rfl, rfl, rfl, rfl, hm2, ew, hx2, hFI⟩ := f2
  show eWp _ _ _ (1698, [(6, vI x1), (0, .retAddr 0), (1, .ref 0), (2, .ref 63), (3, .ref 73), (4, .ref 74), (5, vI i)], [.double x2], _, h2, _, _) _
  refine eW_dstore 1700 rfl rfl [(7, .double x2), (6, vI x1), (0, .retAddr 0), (1, .ref 0), (2, .ref 63), (3, .ref 73), (4, .ref 74), (5, vI i)] rfl rfl ?_
  refine eW_aload_n 1701 rfl rfl rfl ?_
  refine eW_callM 1704 [.ref 63] [] (eS_callV rfl rfl rfl (Nat.ble_eq_true_of_le (by omega)) hm2.1 rfl) rfl rfl rfl (by simp only [vI, eClL, eClV, List.all_cons, List.all_nil, Bool.and_true, Bool.and_eq_true, Bool.true_and, Nat.ble_eq]; first | done | omega) (eRet_M (m_thrown (d := d) hm2 hN1)) ?_
  intro v3 n3 h3 a3 b3 f3
  obtain ⟨rfl, rfl, rfl, rfl, rfl⟩ := f3
  show eWp _ _ _ (1704, [(7, .double x2), (6, vI x1), (0, .retAddr 0), (1, .ref 0), (2, .ref 63), (3, .ref 73), (4, .ref 74), (5, vI i)], [vI (s2 7)], _, _, _, _) _
  refine eW_iload 1706 rfl rfl rfl ?_
  cases r with
  | inr E =>
    have hE := hr E rfl
    have hx1 : x1 = lCd l E := hx
    have hx3 : s2 7 = lCd l E := hx2
    refine eW_icmp_eqE rfl (hx3.trans hx1.symm) ?_
    refine eW_iload 1713 rfl rfl rfl ?_
    refine eW_if_ne 1716 rfl rfl (by unfold i32; omega) (fun _ => ?_) (fun c9 => absurd (show x1 ≠ 0 by omega) c9)
    refine eW_goto rfl ?_
    refine eW_reU [(0, .retAddr 0), (1, .ref 0), (2, .ref 63), (3, .ref 73), (4, .ref 74), (5, vI i)] rfl rfl (List.forall_mem_cons.mpr ⟨rfl, List.forall_mem_cons.mpr ⟨rfl, List.forall_mem_cons.mpr ⟨rfl, List.forall_mem_cons.mpr ⟨rfl, List.forall_mem_cons.mpr ⟨rfl, List.forall_mem_cons.mpr ⟨rfl, fun _ h => absurd h List.not_mem_nil⟩⟩⟩⟩⟩⟩) (List.forall_mem_cons.mpr ⟨Or.inr (Or.inr (Or.inr (Or.inl ⟨_, rfl⟩))), List.forall_mem_cons.mpr ⟨Or.inr (Or.inl ⟨_, rfl⟩), List.forall_mem_cons.mpr ⟨Or.inl rfl, List.forall_mem_cons.mpr ⟨Or.inl rfl, List.forall_mem_cons.mpr ⟨Or.inl rfl, List.forall_mem_cons.mpr ⟨Or.inl rfl, List.forall_mem_cons.mpr ⟨Or.inl rfl, List.forall_mem_cons.mpr ⟨Or.inl rfl, fun _ h => absurd h List.not_mem_nil⟩⟩⟩⟩⟩⟩⟩⟩) ?_
    exact kk n1 a1 b1 _ hFI
  | inl a =>
    obtain ⟨hx1, F9, e9, e90⟩ := hx
    obtain ⟨hx3, hxa⟩ := hx2
    subst hx1; subst hxa
    refine eW_icmp_eqE rfl hx3 ?_
    refine eW_iload 1713 rfl rfl rfl ?_
    refine eW_if_ne 1716 rfl rfl (by unfold i32; omega) (fun c9 => absurd rfl c9) (fun _ => ?_)
    refine eW_aload 1718 rfl rfl rfl ?_
    refine eW_iconst 1719 rfl rfl ?_
    refine eW_daload 1720 rfl rfl (Nat.ble_eq_true_of_le (by omega)) (ew.trans e9) (by omega) (by omega) (by unfold i32; omega) ?_
    rw [show F9 (0 : Int).toNat = _ from e90]
    refine eW_dload 1722 rfl rfl rfl ?_
    refine eW_dcmp 1723 rfl rfl 0 (by rw [fl_dcmp (hb x2 rfl)]; rfl) ?_
    refine eW_if_eq 1726 rfl rfl (by unfold i32; omega) (fun _ => ?_) (fun c9 => absurd rfl c9)
    refine eW_goto rfl ?_
    refine eW_reU [(0, .retAddr 0), (1, .ref 0), (2, .ref 63), (3, .ref 73), (4, .ref 74), (5, vI i)] rfl rfl (List.forall_mem_cons.mpr ⟨rfl, List.forall_mem_cons.mpr ⟨rfl, List.forall_mem_cons.mpr ⟨rfl, List.forall_mem_cons.mpr ⟨rfl, List.forall_mem_cons.mpr ⟨rfl, List.forall_mem_cons.mpr ⟨rfl, fun _ h => absurd h List.not_mem_nil⟩⟩⟩⟩⟩⟩) (List.forall_mem_cons.mpr ⟨Or.inr (Or.inr (Or.inr (Or.inl ⟨_, rfl⟩))), List.forall_mem_cons.mpr ⟨Or.inr (Or.inl ⟨_, rfl⟩), List.forall_mem_cons.mpr ⟨Or.inl rfl, List.forall_mem_cons.mpr ⟨Or.inl rfl, List.forall_mem_cons.mpr ⟨Or.inl rfl, List.forall_mem_cons.mpr ⟨Or.inl rfl, List.forall_mem_cons.mpr ⟨Or.inl rfl, List.forall_mem_cons.mpr ⟨Or.inl rfl, fun _ h => absurd h List.not_mem_nil⟩⟩⟩⟩⟩⟩⟩⟩) ?_
    exact kk n1 a1 b1 _ hFI
set_option maxRecDepth 20000 in
theorem lc_30 {ox : Nat → Option (Nat × Nat × (Nat → Int32))} {d N n k z : Nat} {h : eHp} {xs : Nat → Int} {i : Int} {P : eR → Prop} (hox : ox 0 = some (0, n, eIA xs)) (hxs : ∀ j, i32 (xs j)) (hi : 0 ≤ i ∧ i + 4 ≤ n) (hn : n ≤ 2048) (hN : 75 ≤ N) {r : UInt32 ⊕ String} {l : List String} {FF : Nat → eHp → Nat → Nat → Prop} (hr : ∀ E, r = .inr E → 1 ≤ lCd l E ∧ lCd l E ≤ 3) (hb : ∀ a, r = .inl a → a.toNat % 2147483648 ≤ 2139095040) (hL : eSp (d + 1) eM_L_share [.ref 0, vI (xs (i + 1).toNat), .ref 74] N h (lR 74 lRow74 lH75 r l FF)) {FI : Nat → Nat → Nat → eHp → Prop} (hM : ∀ N1 g1 h1 k1 z1, FF N1 g1 k1 z1 → (∀ i, i ≠ 74 → h1 i = g1 i) → lRow74 (h1 74) → 75 ≤ N1 ∧ (∃ fs, h1 63 = .inr (11, fs)) ∧ eSp (d + 1) eM_X7_share [.ref 63, vI (xs (i + 1).toNat)] N1 h1 (lMF r l N1 h1 (FI N1 k1 z1))) (kk : ∀ N1 k1 z1 h1, FI N1 k1 z1 h1 → eWp ox (eEv (d + 1)) eM_L_law (1930, [(0, .retAddr 0), (1, .ref 0), (2, .ref 63), (3, .ref 73), (4, .ref 74), (5, vI i)], [], N1, h1, k + k1, z + z1) P) : eWp ox (eEv (d + 1)) eM_L_law (1751, [(0, .retAddr 0), (1, .ref 0), (2, .ref 63), (3, .ref 73), (4, .ref 74), (5, vI i)], [], N, h, k, z) P := by
  refine eW_aload_n 1752 rfl rfl rfl ?_
  refine eW_aload_n_out 1753 rfl rfl rfl ?_
  refine eW_iload 1755 rfl rfl rfl ?_
  refine eW_iconst 1756 rfl rfl ?_
  refine eW_iadd 1757 rfl rfl ?_
  refine eW_iaload_o 1758 rfl rfl (xs (i + 1).toNat) hox (by omega) (by omega) (by unfold i32; omega) rfl ?_
  refine eW_aload 1760 rfl rfl rfl ?_
  refine eW_callM 1763 [.ref 0, vI (xs (i + 1).toNat), .ref 74] [] (eS_callS rfl rfl (Or.inl rfl) rfl) rfl rfl rfl (by simp only [vI, eClL, eClV, List.all_cons, List.all_nil, Bool.and_true, Bool.and_eq_true, Bool.true_and, Nat.ble_eq]; first | done | omega) (lR_M hL) ?_
  intro v1 n1 h1 a1 b1 f1
  obtain ⟨x1, g1, rfl, hF, ho, hw, hx⟩ := f1
  show eWp _ _ _ (1763, [(0, .retAddr 0), (1, .ref 0), (2, .ref 63), (3, .ref 73), (4, .ref 74), (5, vI i)], [vI x1], _, h1, _, _) _
  refine eW_istore 1765 rfl rfl [(6, vI x1), (0, .retAddr 0), (1, .ref 0), (2, .ref 63), (3, .ref 73), (4, .ref 74), (5, vI i)] rfl rfl ?_
  obtain ⟨hN1, ⟨fs1, e63⟩, hm⟩ := hM _ _ _ _ _ hF ho hw
  refine eW_aload_n 1766 rfl rfl rfl ?_
  refine eW_aload_n_out 1767 rfl rfl rfl ?_
  refine eW_iload 1769 rfl rfl rfl ?_
  refine eW_iconst 1770 rfl rfl ?_
  refine eW_iadd 1771 rfl rfl ?_
  refine eW_iaload_o 1772 rfl rfl (xs (i + 1).toNat) hox (by omega) (by omega) (by unfold i32; omega) rfl ?_
  refine eW_callM 1775 [.ref 63, vI (xs (i + 1).toNat)] [] (eS_callV rfl rfl rfl (Nat.ble_eq_true_of_le (by omega)) e63 rfl) rfl rfl rfl (by simp only [vI, eClL, eClV, List.all_cons, List.all_nil, Bool.and_true, Bool.and_eq_true, Bool.true_and, Nat.ble_eq]; first | done | omega) (lMF_M hm) ?_
  intro v2 n2 h2 a2 b2 f2
  obtain ⟨x2, s2, A2, rfl, rfl, rfl, rfl, hm2, ew, hx2, hFI⟩ := f2
  show eWp _ _ _ (1775, [(6, vI x1), (0, .retAddr 0), (1, .ref 0), (2, .ref 63), (3, .ref 73), (4, .ref 74), (5, vI i)], [.float x2], _, h2, _, _) _
  refine eW_fstore 1777 rfl rfl [(7, .float x2), (6, vI x1), (0, .retAddr 0), (1, .ref 0), (2, .ref 63), (3, .ref 73), (4, .ref 74), (5, vI i)] rfl rfl ?_
  refine eW_aload_n 1778 rfl rfl rfl ?_
  refine eW_callM 1781 [.ref 63] [] (eS_callV rfl rfl rfl (Nat.ble_eq_true_of_le (by omega)) hm2.1 rfl) rfl rfl rfl (by simp only [vI, eClL, eClV, List.all_cons, List.all_nil, Bool.and_true, Bool.and_eq_true, Bool.true_and, Nat.ble_eq]; first | done | omega) (eRet_M (m_thrown (d := d) hm2 hN1)) ?_
  intro v3 n3 h3 a3 b3 f3
  obtain ⟨rfl, rfl, rfl, rfl, rfl⟩ := f3
  show eWp _ _ _ (1781, [(7, .float x2), (6, vI x1), (0, .retAddr 0), (1, .ref 0), (2, .ref 63), (3, .ref 73), (4, .ref 74), (5, vI i)], [vI (s2 7)], _, _, _, _) _
  refine eW_iload 1783 rfl rfl rfl ?_
  cases r with
  | inr E =>
    have hE := hr E rfl
    have hx1 : x1 = lCd l E := hx
    have hx3 : s2 7 = lCd l E := hx2
    refine eW_icmp_eqE rfl (hx3.trans hx1.symm) ?_
    refine eW_iload 1790 rfl rfl rfl ?_
    refine eW_if_ne 1793 rfl rfl (by unfold i32; omega) (fun _ => ?_) (fun c9 => absurd (show x1 ≠ 0 by omega) c9)
    refine eW_goto rfl ?_
    refine eW_reU [(0, .retAddr 0), (1, .ref 0), (2, .ref 63), (3, .ref 73), (4, .ref 74), (5, vI i)] rfl rfl (List.forall_mem_cons.mpr ⟨rfl, List.forall_mem_cons.mpr ⟨rfl, List.forall_mem_cons.mpr ⟨rfl, List.forall_mem_cons.mpr ⟨rfl, List.forall_mem_cons.mpr ⟨rfl, List.forall_mem_cons.mpr ⟨rfl, fun _ h => absurd h List.not_mem_nil⟩⟩⟩⟩⟩⟩) (List.forall_mem_cons.mpr ⟨Or.inr (Or.inr (Or.inr (Or.inr ⟨_, rfl⟩))), List.forall_mem_cons.mpr ⟨Or.inr (Or.inl ⟨_, rfl⟩), List.forall_mem_cons.mpr ⟨Or.inl rfl, List.forall_mem_cons.mpr ⟨Or.inl rfl, List.forall_mem_cons.mpr ⟨Or.inl rfl, List.forall_mem_cons.mpr ⟨Or.inl rfl, List.forall_mem_cons.mpr ⟨Or.inl rfl, List.forall_mem_cons.mpr ⟨Or.inl rfl, fun _ h => absurd h List.not_mem_nil⟩⟩⟩⟩⟩⟩⟩⟩) ?_
    exact kk n1 a1 b1 _ hFI
  | inl a =>
    obtain ⟨hx1, F9, e9, e90⟩ := hx
    obtain ⟨hx3, hxa⟩ := hx2
    subst hx1; subst hxa
    refine eW_icmp_eqE rfl hx3 ?_
    refine eW_iload 1790 rfl rfl rfl ?_
    refine eW_if_ne 1793 rfl rfl (by unfold i32; omega) (fun c9 => absurd rfl c9) (fun _ => ?_)
    refine eW_aload 1795 rfl rfl rfl ?_
    refine eW_iconst 1796 rfl rfl ?_
    refine eW_daload 1797 rfl rfl (Nat.ble_eq_true_of_le (by omega)) (ew.trans e9) (by omega) (by omega) (by unfold i32; omega) ?_
    rw [show F9 (0 : Int).toNat = _ from e90]
    refine eW_fload 1799 rfl rfl rfl ?_
    refine eW_f2d 1800 rfl rfl (fl_and64 (fl_f2d (hb x2 rfl))) ?_
    refine eW_dcmp 1801 rfl rfl 0 (by rw [fl_dcmp (fl_f2d (hb x2 rfl))]; rfl) ?_
    refine eW_if_eq 1804 rfl rfl (by unfold i32; omega) (fun _ => ?_) (fun c9 => absurd rfl c9)
    refine eW_goto rfl ?_
    refine eW_reU [(0, .retAddr 0), (1, .ref 0), (2, .ref 63), (3, .ref 73), (4, .ref 74), (5, vI i)] rfl rfl (List.forall_mem_cons.mpr ⟨rfl, List.forall_mem_cons.mpr ⟨rfl, List.forall_mem_cons.mpr ⟨rfl, List.forall_mem_cons.mpr ⟨rfl, List.forall_mem_cons.mpr ⟨rfl, List.forall_mem_cons.mpr ⟨rfl, fun _ h => absurd h List.not_mem_nil⟩⟩⟩⟩⟩⟩) (List.forall_mem_cons.mpr ⟨Or.inr (Or.inr (Or.inr (Or.inr ⟨_, rfl⟩))), List.forall_mem_cons.mpr ⟨Or.inr (Or.inl ⟨_, rfl⟩), List.forall_mem_cons.mpr ⟨Or.inl rfl, List.forall_mem_cons.mpr ⟨Or.inl rfl, List.forall_mem_cons.mpr ⟨Or.inl rfl, List.forall_mem_cons.mpr ⟨Or.inl rfl, List.forall_mem_cons.mpr ⟨Or.inl rfl, List.forall_mem_cons.mpr ⟨Or.inl rfl, fun _ h => absurd h List.not_mem_nil⟩⟩⟩⟩⟩⟩⟩⟩) ?_
    exact kk n1 a1 b1 _ hFI
set_option maxRecDepth 20000 in
theorem lc_31 {ox : Nat → Option (Nat × Nat × (Nat → Int32))} {d N n k z : Nat} {h : eHp} {xs : Nat → Int} {i : Int} {P : eR → Prop} (hox : ox 0 = some (0, n, eIA xs)) (hxs : ∀ j, i32 (xs j)) (hi : 0 ≤ i ∧ i + 4 ≤ n) (hn : n ≤ 2048) (hN : 75 ≤ N) {r : Int ⊕ String} {l : List String} {FF : Nat → eHp → Nat → Nat → Prop} (hr : ∀ E, r = .inr E → 1 ≤ lCd l E ∧ lCd l E ≤ 3) (hL : eSp (d + 1) eM_L_undo [.ref 0, .ref 73] N h (lR 73 lRow73 lH73 r l FF)) {FI : Nat → Nat → Nat → eHp → Prop} (hM : ∀ N1 g1 h1 k1 z1, FF N1 g1 k1 z1 → (∀ i, i ≠ 73 → h1 i = g1 i) → lRow73 (h1 73) → 75 ≤ N1 ∧ (∃ fs, h1 63 = .inr (11, fs)) ∧ eSp (d + 1) eM_X7_undo [.ref 63] N1 h1 (lM r l N1 h1 (FI N1 k1 z1))) (kk : ∀ N1 k1 z1 h1, FI N1 k1 z1 h1 → eWp ox (eEv (d + 1)) eM_L_law (1930, [(0, .retAddr 0), (1, .ref 0), (2, .ref 63), (3, .ref 73), (4, .ref 74), (5, vI i)], [], N1, h1, k + k1, z + z1) P) : eWp ox (eEv (d + 1)) eM_L_law (1829, [(0, .retAddr 0), (1, .ref 0), (2, .ref 63), (3, .ref 73), (4, .ref 74), (5, vI i)], [], N, h, k, z) P := by
  refine eW_aload_n 1830 rfl rfl rfl ?_
  refine eW_aload_n 1831 rfl rfl rfl ?_
  refine eW_callM 1834 [.ref 0, .ref 73] [] (eS_callS rfl rfl (Or.inl rfl) rfl) rfl rfl rfl (by simp only [vI, eClL, eClV, List.all_cons, List.all_nil, Bool.and_true, Bool.and_eq_true, Bool.true_and, Nat.ble_eq]; first | done | omega) (lR_M hL) ?_
  intro v1 n1 h1 a1 b1 f1
  obtain ⟨x1, g1, rfl, hF, ho, hw, hx⟩ := f1
  show eWp _ _ _ (1834, [(0, .retAddr 0), (1, .ref 0), (2, .ref 63), (3, .ref 73), (4, .ref 74), (5, vI i)], [vI x1], _, h1, _, _) _
  refine eW_istore 1836 rfl rfl [(6, vI x1), (0, .retAddr 0), (1, .ref 0), (2, .ref 63), (3, .ref 73), (4, .ref 74), (5, vI i)] rfl rfl ?_
  obtain ⟨hN1, ⟨fs1, e63⟩, hm⟩ := hM _ _ _ _ _ hF ho hw
  refine eW_aload_n 1837 rfl rfl rfl ?_
  refine eW_callM 1840 [.ref 63] [] (eS_callV rfl rfl rfl (Nat.ble_eq_true_of_le (by omega)) e63 rfl) rfl rfl rfl (by simp only [vI, eClL, eClV, List.all_cons, List.all_nil, Bool.and_true, Bool.and_eq_true, Bool.true_and, Nat.ble_eq]; first | done | omega) (lM_M hm) ?_
  intro v2 n2 h2 a2 b2 f2
  obtain ⟨x2, s2, A2, rfl, rfl, rfl, rfl, hm2, ew, hx2, hFI⟩ := f2
  show eWp _ _ _ (1840, [(6, vI x1), (0, .retAddr 0), (1, .ref 0), (2, .ref 63), (3, .ref 73), (4, .ref 74), (5, vI i)], [vI x2], _, h2, _, _) _
  refine eW_istore 1842 rfl rfl [(7, vI x2), (6, vI x1), (0, .retAddr 0), (1, .ref 0), (2, .ref 63), (3, .ref 73), (4, .ref 74), (5, vI i)] rfl rfl ?_
  refine eW_aload_n 1843 rfl rfl rfl ?_
  refine eW_callM 1846 [.ref 63] [] (eS_callV rfl rfl rfl (Nat.ble_eq_true_of_le (by omega)) hm2.1 rfl) rfl rfl rfl (by simp only [vI, eClL, eClV, List.all_cons, List.all_nil, Bool.and_true, Bool.and_eq_true, Bool.true_and, Nat.ble_eq]; first | done | omega) (eRet_M (m_thrown (d := d) hm2 hN1)) ?_
  intro v3 n3 h3 a3 b3 f3
  obtain ⟨rfl, rfl, rfl, rfl, rfl⟩ := f3
  show eWp _ _ _ (1846, [(7, vI x2), (6, vI x1), (0, .retAddr 0), (1, .ref 0), (2, .ref 63), (3, .ref 73), (4, .ref 74), (5, vI i)], [vI (s2 7)], _, _, _, _) _
  refine eW_iload 1848 rfl rfl rfl ?_
  cases r with
  | inr E =>
    have hE := hr E rfl
    have hx1 : x1 = lCd l E := hx
    have hx3 : s2 7 = lCd l E := hx2
    refine eW_icmp_eqE rfl (hx3.trans hx1.symm) ?_
    refine eW_iload 1855 rfl rfl rfl ?_
    refine eW_if_ne 1858 rfl rfl (by unfold i32; omega) (fun _ => ?_) (fun c9 => absurd (show x1 ≠ 0 by omega) c9)
    refine eW_goto rfl ?_
    refine eW_reU [(0, .retAddr 0), (1, .ref 0), (2, .ref 63), (3, .ref 73), (4, .ref 74), (5, vI i)] rfl rfl (List.forall_mem_cons.mpr ⟨rfl, List.forall_mem_cons.mpr ⟨rfl, List.forall_mem_cons.mpr ⟨rfl, List.forall_mem_cons.mpr ⟨rfl, List.forall_mem_cons.mpr ⟨rfl, List.forall_mem_cons.mpr ⟨rfl, fun _ h => absurd h List.not_mem_nil⟩⟩⟩⟩⟩⟩) (List.forall_mem_cons.mpr ⟨Or.inr (Or.inl ⟨_, rfl⟩), List.forall_mem_cons.mpr ⟨Or.inr (Or.inl ⟨_, rfl⟩), List.forall_mem_cons.mpr ⟨Or.inl rfl, List.forall_mem_cons.mpr ⟨Or.inl rfl, List.forall_mem_cons.mpr ⟨Or.inl rfl, List.forall_mem_cons.mpr ⟨Or.inl rfl, List.forall_mem_cons.mpr ⟨Or.inl rfl, List.forall_mem_cons.mpr ⟨Or.inl rfl, fun _ h => absurd h List.not_mem_nil⟩⟩⟩⟩⟩⟩⟩⟩) ?_
    exact kk n1 a1 b1 _ hFI
  | inl a =>
    obtain ⟨hx1, F9, e9, e90⟩ := hx
    obtain ⟨hx3, hxa⟩ := hx2
    subst hx1; subst hxa
    refine eW_icmp_eqE rfl hx3 ?_
    refine eW_iload 1855 rfl rfl rfl ?_
    refine eW_if_ne 1858 rfl rfl (by unfold i32; omega) (fun c9 => absurd rfl c9) (fun _ => ?_)
    refine eW_aload_n 1859 rfl rfl rfl ?_
    refine eW_iconst 1860 rfl rfl ?_
    refine eW_laloadx 1861 rfl rfl (Int32.ofInt x2).toInt64 (Nat.ble_eq_true_of_le (by omega)) (ew.trans e9) (by omega) (by omega) (by unfold i32; omega) e90 ?_
    refine eW_iload 1863 rfl rfl rfl ?_
    refine eW_i2lx 1864 rfl rfl ?_
    refine eW_lcmpE 1865 rfl rfl rfl ?_
    refine eW_if_eq 1868 rfl rfl (by unfold i32; omega) (fun _ => ?_) (fun c9 => absurd rfl c9)
    refine eW_goto rfl ?_
    refine eW_reU [(0, .retAddr 0), (1, .ref 0), (2, .ref 63), (3, .ref 73), (4, .ref 74), (5, vI i)] rfl rfl (List.forall_mem_cons.mpr ⟨rfl, List.forall_mem_cons.mpr ⟨rfl, List.forall_mem_cons.mpr ⟨rfl, List.forall_mem_cons.mpr ⟨rfl, List.forall_mem_cons.mpr ⟨rfl, List.forall_mem_cons.mpr ⟨rfl, fun _ h => absurd h List.not_mem_nil⟩⟩⟩⟩⟩⟩) (List.forall_mem_cons.mpr ⟨Or.inr (Or.inl ⟨_, rfl⟩), List.forall_mem_cons.mpr ⟨Or.inr (Or.inl ⟨_, rfl⟩), List.forall_mem_cons.mpr ⟨Or.inl rfl, List.forall_mem_cons.mpr ⟨Or.inl rfl, List.forall_mem_cons.mpr ⟨Or.inl rfl, List.forall_mem_cons.mpr ⟨Or.inl rfl, List.forall_mem_cons.mpr ⟨Or.inl rfl, List.forall_mem_cons.mpr ⟨Or.inl rfl, fun _ h => absurd h List.not_mem_nil⟩⟩⟩⟩⟩⟩⟩⟩) ?_
    exact kk n1 a1 b1 _ hFI
set_option maxRecDepth 20000 in
theorem lc_32 {ox : Nat → Option (Nat × Nat × (Nat → Int32))} {d N n k z : Nat} {h : eHp} {xs : Nat → Int} {i : Int} {P : eR → Prop} (hox : ox 0 = some (0, n, eIA xs)) (hxs : ∀ j, i32 (xs j)) (hi : 0 ≤ i ∧ i + 4 ≤ n) (hn : n ≤ 2048) (hN : 75 ≤ N) {fs : List Value} (h0 : h 0 = .inr (10, fs)) {v : Int} {FF : Nat → eHp → Nat → Nat → Prop} (hL : eSp (d + 1) eM_X6_save [.ref 0] N h (lB v N FF)) {FI : Nat → Nat → Nat → eHp → Prop} (hM : ∀ N1 h1 k1 z1, FF N1 h1 k1 z1 → 75 ≤ N1 ∧ (∃ fs, h1 63 = .inr (11, fs)) ∧ eSp (d + 1) eM_X7_save [.ref 63] N1 h1 (lNq v N1 (FI N1 k1 z1))) (kk : ∀ N1 k1 z1 h1, FI N1 k1 z1 h1 → eWp ox (eEv (d + 1)) eM_L_law (1930, [(0, .retAddr 0), (1, .ref 0), (2, .ref 63), (3, .ref 73), (4, .ref 74), (5, vI i)], [], N1, h1, k + k1, z + z1) P) : eWp ox (eEv (d + 1)) eM_L_law (1873, [(0, .retAddr 0), (1, .ref 0), (2, .ref 63), (3, .ref 73), (4, .ref 74), (5, vI i)], [], N, h, k, z) P := by
  refine eW_aload_n 1874 rfl rfl rfl ?_
  refine eW_callM 1877 [.ref 0] [] (eS_callV rfl rfl rfl (Nat.ble_eq_true_of_le (by omega)) h0 rfl) rfl rfl rfl (by simp only [vI, eClL, eClV, List.all_cons, List.all_nil, Bool.and_true, Bool.and_eq_true, Bool.true_and, Nat.ble_eq]; first | done | omega) (lB_M hL) ?_
  intro v1 n1 h1 a1 b1 f1
  obtain ⟨rfl, hle, hF⟩ := f1
  show eWp _ _ _ (1877, [(0, .retAddr 0), (1, .ref 0), (2, .ref 63), (3, .ref 73), (4, .ref 74), (5, vI i)], [vI v], _, h1, _, _) _
  obtain ⟨hN1, ⟨fs1, e63⟩, hm⟩ := hM _ _ _ _ hF
  refine eW_aload_n 1878 rfl rfl rfl ?_
  refine eW_callM 1881 [.ref 63] [vI v] (eS_callV rfl rfl rfl (Nat.ble_eq_true_of_le (by omega)) e63 rfl) rfl rfl rfl (by simp only [vI, eClL, eClV, List.all_cons, List.all_nil, Bool.and_true, Bool.and_eq_true, Bool.true_and, Nat.ble_eq]; first | done | omega) (lNq_M hm) ?_
  intro v2 n2 h2 a2 b2 f2
  obtain ⟨rfl, rfl, rfl, rfl, hFI⟩ := f2
  show eWp _ _ _ (1881, [(0, .retAddr 0), (1, .ref 0), (2, .ref 63), (3, .ref 73), (4, .ref 74), (5, vI i)], [vI v, vI v], _, h2, _, _) _
  refine eW_icmp_eqE rfl rfl ?_
  exact kk n1 a1 b1 _ hFI
set_option maxRecDepth 20000 in
theorem lc_33 {ox : Nat → Option (Nat × Nat × (Nat → Int32))} {d N n k z : Nat} {h : eHp} {xs : Nat → Int} {i : Int} {P : eR → Prop} (hox : ox 0 = some (0, n, eIA xs)) (hxs : ∀ j, i32 (xs j)) (hi : 0 ≤ i ∧ i + 4 ≤ n) (hn : n ≤ 2048) (hN : 75 ≤ N) {r : Int ⊕ String} {l : List String} {FF : Nat → eHp → Nat → Nat → Prop} (hr : ∀ E, r = .inr E → 1 ≤ lCd l E ∧ lCd l E ≤ 3) (hL : eSp (d + 1) eM_L_restore [.ref 0, .ref 73] N h (lR 73 lRow73 lH73 r l FF)) {FI : Nat → Nat → Nat → eHp → Prop} (hM : ∀ N1 g1 h1 k1 z1, FF N1 g1 k1 z1 → (∀ i, i ≠ 73 → h1 i = g1 i) → lRow73 (h1 73) → 75 ≤ N1 ∧ (∃ fs, h1 63 = .inr (11, fs)) ∧ eSp (d + 1) eM_X7_restore [.ref 63] N1 h1 (lM r l N1 h1 (FI N1 k1 z1))) (kk : ∀ N1 k1 z1 h1, FI N1 k1 z1 h1 → eWp ox (eEv (d + 1)) eM_L_law (1930, [(0, .retAddr 0), (1, .ref 0), (2, .ref 63), (3, .ref 73), (4, .ref 74), (5, vI i)], [], N1, h1, k + k1, z + z1) P) : eWp ox (eEv (d + 1)) eM_L_law (1886, [(0, .retAddr 0), (1, .ref 0), (2, .ref 63), (3, .ref 73), (4, .ref 74), (5, vI i)], [], N, h, k, z) P := by
  refine eW_aload_n 1887 rfl rfl rfl ?_
  refine eW_aload_n 1888 rfl rfl rfl ?_
  refine eW_callM 1891 [.ref 0, .ref 73] [] (eS_callS rfl rfl (Or.inl rfl) rfl) rfl rfl rfl (by simp only [vI, eClL, eClV, List.all_cons, List.all_nil, Bool.and_true, Bool.and_eq_true, Bool.true_and, Nat.ble_eq]; first | done | omega) (lR_M hL) ?_
  intro v1 n1 h1 a1 b1 f1
  obtain ⟨x1, g1, rfl, hF, ho, hw, hx⟩ := f1
  show eWp _ _ _ (1891, [(0, .retAddr 0), (1, .ref 0), (2, .ref 63), (3, .ref 73), (4, .ref 74), (5, vI i)], [vI x1], _, h1, _, _) _
  refine eW_istore 1893 rfl rfl [(6, vI x1), (0, .retAddr 0), (1, .ref 0), (2, .ref 63), (3, .ref 73), (4, .ref 74), (5, vI i)] rfl rfl ?_
  obtain ⟨hN1, ⟨fs1, e63⟩, hm⟩ := hM _ _ _ _ _ hF ho hw
  refine eW_aload_n 1894 rfl rfl rfl ?_
  refine eW_callM 1897 [.ref 63] [] (eS_callV rfl rfl rfl (Nat.ble_eq_true_of_le (by omega)) e63 rfl) rfl rfl rfl (by simp only [vI, eClL, eClV, List.all_cons, List.all_nil, Bool.and_true, Bool.and_eq_true, Bool.true_and, Nat.ble_eq]; first | done | omega) (lM_M hm) ?_
  intro v2 n2 h2 a2 b2 f2
  obtain ⟨x2, s2, A2, rfl, rfl, rfl, rfl, hm2, ew, hx2, hFI⟩ := f2
  show eWp _ _ _ (1897, [(6, vI x1), (0, .retAddr 0), (1, .ref 0), (2, .ref 63), (3, .ref 73), (4, .ref 74), (5, vI i)], [vI x2], _, h2, _, _) _
  refine eW_istore 1899 rfl rfl [(7, vI x2), (6, vI x1), (0, .retAddr 0), (1, .ref 0), (2, .ref 63), (3, .ref 73), (4, .ref 74), (5, vI i)] rfl rfl ?_
  refine eW_aload_n 1900 rfl rfl rfl ?_
  refine eW_callM 1903 [.ref 63] [] (eS_callV rfl rfl rfl (Nat.ble_eq_true_of_le (by omega)) hm2.1 rfl) rfl rfl rfl (by simp only [vI, eClL, eClV, List.all_cons, List.all_nil, Bool.and_true, Bool.and_eq_true, Bool.true_and, Nat.ble_eq]; first | done | omega) (eRet_M (m_thrown (d := d) hm2 hN1)) ?_
  intro v3 n3 h3 a3 b3 f3
  obtain ⟨rfl, rfl, rfl, rfl, rfl⟩ := f3
  show eWp _ _ _ (1903, [(7, vI x2), (6, vI x1), (0, .retAddr 0), (1, .ref 0), (2, .ref 63), (3, .ref 73), (4, .ref 74), (5, vI i)], [vI (s2 7)], _, _, _, _) _
  refine eW_iload 1905 rfl rfl rfl ?_
  cases r with
  | inr E =>
    have hE := hr E rfl
    have hx1 : x1 = lCd l E := hx
    have hx3 : s2 7 = lCd l E := hx2
    refine eW_icmp_eqE rfl (hx3.trans hx1.symm) ?_
    refine eW_iload 1912 rfl rfl rfl ?_
    refine eW_if_ne 1915 rfl rfl (by unfold i32; omega) (fun _ => ?_) (fun c9 => absurd (show x1 ≠ 0 by omega) c9)
    refine eW_goto rfl ?_
    refine eW_reU [(0, .retAddr 0), (1, .ref 0), (2, .ref 63), (3, .ref 73), (4, .ref 74), (5, vI i)] rfl rfl (List.forall_mem_cons.mpr ⟨rfl, List.forall_mem_cons.mpr ⟨rfl, List.forall_mem_cons.mpr ⟨rfl, List.forall_mem_cons.mpr ⟨rfl, List.forall_mem_cons.mpr ⟨rfl, List.forall_mem_cons.mpr ⟨rfl, fun _ h => absurd h List.not_mem_nil⟩⟩⟩⟩⟩⟩) (List.forall_mem_cons.mpr ⟨Or.inr (Or.inl ⟨_, rfl⟩), List.forall_mem_cons.mpr ⟨Or.inr (Or.inl ⟨_, rfl⟩), List.forall_mem_cons.mpr ⟨Or.inl rfl, List.forall_mem_cons.mpr ⟨Or.inl rfl, List.forall_mem_cons.mpr ⟨Or.inl rfl, List.forall_mem_cons.mpr ⟨Or.inl rfl, List.forall_mem_cons.mpr ⟨Or.inl rfl, List.forall_mem_cons.mpr ⟨Or.inl rfl, fun _ h => absurd h List.not_mem_nil⟩⟩⟩⟩⟩⟩⟩⟩) ?_
    exact kk n1 a1 b1 _ hFI
  | inl a =>
    obtain ⟨hx1, F9, e9, e90⟩ := hx
    obtain ⟨hx3, hxa⟩ := hx2
    subst hx1; subst hxa
    refine eW_icmp_eqE rfl hx3 ?_
    refine eW_iload 1912 rfl rfl rfl ?_
    refine eW_if_ne 1915 rfl rfl (by unfold i32; omega) (fun c9 => absurd rfl c9) (fun _ => ?_)
    refine eW_aload_n 1916 rfl rfl rfl ?_
    refine eW_iconst 1917 rfl rfl ?_
    refine eW_laloadx 1918 rfl rfl (Int32.ofInt x2).toInt64 (Nat.ble_eq_true_of_le (by omega)) (ew.trans e9) (by omega) (by omega) (by unfold i32; omega) e90 ?_
    refine eW_iload 1920 rfl rfl rfl ?_
    refine eW_i2lx 1921 rfl rfl ?_
    refine eW_lcmpE 1922 rfl rfl rfl ?_
    refine eW_if_eq 1925 rfl rfl (by unfold i32; omega) (fun _ => ?_) (fun c9 => absurd rfl c9)
    refine eW_goto rfl ?_
    refine eW_reU [(0, .retAddr 0), (1, .ref 0), (2, .ref 63), (3, .ref 73), (4, .ref 74), (5, vI i)] rfl rfl (List.forall_mem_cons.mpr ⟨rfl, List.forall_mem_cons.mpr ⟨rfl, List.forall_mem_cons.mpr ⟨rfl, List.forall_mem_cons.mpr ⟨rfl, List.forall_mem_cons.mpr ⟨rfl, List.forall_mem_cons.mpr ⟨rfl, fun _ h => absurd h List.not_mem_nil⟩⟩⟩⟩⟩⟩) (List.forall_mem_cons.mpr ⟨Or.inr (Or.inl ⟨_, rfl⟩), List.forall_mem_cons.mpr ⟨Or.inr (Or.inl ⟨_, rfl⟩), List.forall_mem_cons.mpr ⟨Or.inl rfl, List.forall_mem_cons.mpr ⟨Or.inl rfl, List.forall_mem_cons.mpr ⟨Or.inl rfl, List.forall_mem_cons.mpr ⟨Or.inl rfl, List.forall_mem_cons.mpr ⟨Or.inl rfl, List.forall_mem_cons.mpr ⟨Or.inl rfl, fun _ h => absurd h List.not_mem_nil⟩⟩⟩⟩⟩⟩⟩⟩) ?_
    exact kk n1 a1 b1 _ hFI
