/-! the law's run -/
def cS : Nat → Int := fun j => if j = 12 then -1 else 0
def cA0 : Nat → Nat → Int := fun k => if k = 0 then eUp (eUp (eUp (fun _ => 0) 7 (-1)) 8 7) 9 7 else fun _ => 0
theorem rR_c2 : rR cG2 (cA0 0) := by
  refine ⟨rfl, rfl, rfl, rfl, rfl, rfl, rfl, by decide, fun i hi => ?_, fun i hi => ?_, fun i hi => absurd (show (i : Int) < 0 from hi) (by omega)⟩
  · rcases (show i = 0 ∨ i = 1 ∨ i = 2 ∨ i = 3 ∨ i = 4 ∨ i = 5 by omega) with e | e | e | e | e | e <;> subst e <;> rfl
  · rcases (show i = 0 ∨ i = 1 ∨ i = 2 ∨ i = 3 ∨ i = 4 ∨ i = 5 ∨ i = 6 ∨ i = 7 by omega) with e | e | e | e | e | e | e | e <;> subst e <;> rfl
theorem gTO_c : gTO cT := ⟨⟨by decide, by decide⟩, ⟨by decide, by decide⟩, ⟨by decide, by decide⟩, fun i _ => ⟨by show (0 : Int) ≤ 0; omega, by show (0 : Int) ≤ 65535; omega⟩, fun i _ => ⟨by show (0 : Int) ≤ 0; omega, by show (0 : Int) ≤ 65535; omega⟩, fun i _ => ⟨by show (-1 : Int) ≤ 0; omega, by show (0 : Int) ≤ 99; omega⟩⟩
theorem lRel_c {V : eVs} (hv : gVG V cG2) : lRel 0 (0, -1, 0, 0) cG2 cZ 0 0 (fun _ => cZ) V cT [] cS cA0 := by
  refine ⟨⟨gI_c2, hv, gTO_c, rR_c2⟩, ⟨by decide, by decide, rfl, fun i h0 h1 => absurd h1 (by omega)⟩, ⟨rfl, Or.inl rfl, fun h9 => absurd (show (0 : Int) = 1 from h9) (by decide)⟩, ⟨rfl, rfl, rfl, ⟨by decide, by decide⟩⟩, ⟨rfl, fun i hi => absurd (show (i : Int) < 0 from hi) (by omega)⟩, rfl, ⟨rfl, fun i hi => absurd hi (Nat.not_lt_zero _)⟩, by decide⟩
set_option maxRecDepth 20000 in
theorem l_main {ox : Nat → Option (Nat × Nat × (Nat → Int32))} {d n : Nat} {h : eHp} {xs : Nat → Int} (hox : ox 0 = some (0, n, eIA xs)) (hxs : ∀ j, i32 (xs j)) (hn : n ≤ 2048) : eWp ox (eEv (d + 50)) eM_L_law (0, [(0, .retAddr 0)], [], 0, h, 0, 0) (fun q => ∃ N h k z, q = (.inl (some (vI 1)), N, h, k, z) ∧ k ≤ 603072 ∧ z ≤ 7211114) := by
  have c0 : eClH 0 h = true := rfl
  refine eW_newO 3 [.null, .null, .null, .null, .null, .null, .null, .null, .null, vI 0, vI 0, vI 0, vI 0] rfl rfl rfl rfl (eClA_of (by simp only [vI, eClL, eClV, List.all_cons, List.all_nil, Bool.and_true, Bool.and_eq_true, Bool.true_and, Nat.ble_eq]; first | done | omega) c0) ?_
  intro h1 e1 o1
  have s1 : hSeg h1 0 [.inr (10, [.null, .null, .null, .null, .null, .null, .null, .null, .null, vI 0, vI 0, vI 0, vI 0])] := seg_one e1
  have c1 : eClH 1 h1 = true := eClH_new c0 e1 (by simp only [vI, eClE, List.all_cons, List.all_nil, eClV, Bool.and_true, Bool.true_and, Bool.and_eq_true, Nat.ble_eq]; first | done | omega) o1
  refine eW_dup 4 rfl rfl rfl ?_
  refine eW_callM 7 [.ref 0] [.ref 0] (eS_callI rfl rfl (Or.inl rfl) rfl (Nat.ble_eq_true_of_le (by omega)) rfl) rfl rfl rfl (by simp only [vI, eClL, eClV, List.all_cons, List.all_nil, Bool.and_true, Bool.and_eq_true, Bool.true_and, Nat.ble_eq]; first | done | omega) (cX6_M (c_X6 (d := d + 43) s1 c1)) ?_
  intro v2 n2 h2 a2 b2 g2
  obtain ⟨rfl, rfl, rfl, rfl, V9, hw2, hv2, hb2, c2⟩ := g2
  show eWp _ _ _ (7, [(0, .retAddr 0)], [.ref 0], 63, h2, _, _) _
  refine eW_astore_n 8 rfl rfl [(1, .ref 0), (0, .retAddr 0)] rfl rfl ?_
  refine eW_newO 11 [.null, .null, .null, .null, vI 0, vI 0, vI 0, vI 0, vI 0, vI 0, .null, vI 0, vI 0, .null, vI 0, .null, .null, vI 0, vI 0, vI 0, vI 0, .null, vI 0] rfl rfl rfl rfl (eClA_of (by simp only [vI, eClL, eClV, List.all_cons, List.all_nil, Bool.and_true, Bool.and_eq_true, Bool.true_and, Nat.ble_eq]; first | done | omega) c2) ?_
  intro h3 e3 o3
  have s3 : hSeg h3 63 [.inr (11, [.null, .null, .null, .null, vI 0, vI 0, vI 0, vI 0, vI 0, vI 0, .null, vI 0, vI 0, .null, vI 0, .null, .null, vI 0, vI 0, vI 0, vI 0, .null, vI 0])] := seg_one e3
  have c3 : eClH 64 h3 = true := eClH_new c2 e3 (by simp only [vI, eClE, List.all_cons, List.all_nil, eClV, Bool.and_true, Bool.true_and, Bool.and_eq_true, Nat.ble_eq]; first | done | omega) o3
  refine eW_dup 12 rfl rfl rfl ?_
  refine eW_callM 15 [.ref 63] [.ref 63] (eS_callI rfl rfl (Or.inl rfl) rfl (Nat.ble_eq_true_of_le (by omega)) rfl) rfl rfl rfl (by simp only [vI, eClL, eClV, List.all_cons, List.all_nil, Bool.and_true, Bool.and_eq_true, Bool.true_and, Nat.ble_eq]; first | done | omega) (cC_M 73 rfl (c_X7_init (d := d + 49) s3 c3)) ?_
  intro v4 n4 h4 a4 b4 g4
  obtain ⟨rfl, rfl, rfl, rfl, s4, f4, c4⟩ := g4
  show eWp _ _ _ (15, [(1, .ref 0), (0, .retAddr 0)], [.ref 63], 73, h4, _, _) _
  refine eW_astore_n 16 rfl rfl [(2, .ref 63), (1, .ref 0), (0, .retAddr 0)] rfl rfl ?_
  refine eW_iconst 17 rfl rfl ?_
  refine eW_newX 19 4 (.inr (.inl (eLA (fun _ => 0)))) rfl rfl (fun _ => rfl) (by omega) (eClA_of (by simp only [vI, eClL, eClV, List.all_cons, List.all_nil, Bool.and_true, Bool.and_eq_true, Bool.true_and, Nat.ble_eq]; first | done | omega) c4) ?_
  intro h5 e5 o5
  have c5 : eClH 74 h5 = true := eClH_new c4 e5 rfl o5
  refine eW_astore_n 20 rfl rfl [(3, .ref 73), (2, .ref 63), (1, .ref 0), (0, .retAddr 0)] rfl rfl ?_
  refine eW_iconst 21 rfl rfl ?_
  refine eW_newX 23 6 (.inr (.inr (.inr (.inl (fun _ => 0))))) rfl rfl (fun _ => rfl) (by omega) (eClA_of (by simp only [vI, eClL, eClV, List.all_cons, List.all_nil, Bool.and_true, Bool.and_eq_true, Bool.true_and, Nat.ble_eq]; first | done | omega) c5) ?_
  intro h6 e6 o6
  have c6 : eClH 75 h6 = true := eClH_new c5 e6 rfl o6
  refine eW_astore 25 rfl rfl [(4, .ref 74), (3, .ref 73), (2, .ref 63), (1, .ref 0), (0, .retAddr 0)] rfl rfl ?_
  refine eW_iconst 26 rfl rfl ?_
  refine eW_istore 28 rfl rfl [(5, vI 0), (4, .ref 74), (3, .ref 73), (2, .ref 63), (1, .ref 0), (0, .retAddr 0)] rfl rfl ?_
  refine eW_reU [(0, .retAddr 0), (1, .ref 0), (2, .ref 63), (3, .ref 73), (4, .ref 74), (5, vI 0)] rfl rfl (List.forall_mem_cons.mpr ⟨rfl, List.forall_mem_cons.mpr ⟨rfl, List.forall_mem_cons.mpr ⟨rfl, List.forall_mem_cons.mpr ⟨rfl, List.forall_mem_cons.mpr ⟨rfl, List.forall_mem_cons.mpr ⟨rfl, fun _ h => absurd h List.not_mem_nil⟩⟩⟩⟩⟩⟩) (List.forall_mem_cons.mpr ⟨Or.inl rfl, List.forall_mem_cons.mpr ⟨Or.inl rfl, List.forall_mem_cons.mpr ⟨Or.inl rfl, List.forall_mem_cons.mpr ⟨Or.inl rfl, List.forall_mem_cons.mpr ⟨Or.inl rfl, List.forall_mem_cons.mpr ⟨Or.inl rfl, fun _ h => absurd h List.not_mem_nil⟩⟩⟩⟩⟩⟩) ?_
  have o36 : ∀ i, i ≤ 62 → h6 i = h2 i := fun i hi => (o6 i (by omega)).trans ((o5 i (by omega)).trans ((f4 i (by omega)).trans (o3 i (by omega))))
  have o46 : ∀ i, i ≤ 72 → h6 i = h4 i := fun i hi => (o6 i (by omega)).trans (o5 i (by omega))
  have hm6 : mM h6 cS cA0 := ⟨(o46 63 (by omega)).trans (s4 0 _ rfl), (o46 64 (by omega)).trans (s4 1 _ rfl), (o46 65 (by omega)).trans (s4 2 _ rfl), (o46 66 (by omega)).trans (s4 3 _ rfl), (o46 67 (by omega)).trans (s4 4 _ rfl), (o46 68 (by omega)).trans (s4 5 _ rfl), (o46 69 (by omega)).trans (s4 6 _ rfl), (o46 70 (by omega)).trans (s4 7 _ rfl), (o46 71 (by omega)).trans (s4 8 _ rfl), (o46 72 (by omega)).trans (s4 9 _ rfl)⟩
  have hw6 : cW h6 (0, -1, 0, 0) cG2 cZ cZ 0 0 (fun _ => cZ) V9 (0, 0, 0) cT := cW_k hw2 (fun i hi => o36 i (by omega))
  have hb6 : bW h6 0 [] := by
    obtain ⟨b, B, ml, b1, b2, b3, b4, b5, b6, b7, b8, b9⟩ := hb2
    have b3 : b = 62 := by omega
    subst b3
    exact ⟨62, B, ml, (o36 61 (by omega)).trans b1, (o36 62 (by omega)).trans b2, Or.inl rfl, b4, b5, b6, b7, b8, fun i h8 h9 => absurd h9 (by omega)⟩
  have hl6 : lO h6 := ⟨_, _, (o6 73 (by omega)).trans e5, e6⟩
  have hI6 : lI 0 0 h6 := ⟨_, _, _, _, _, _, _, _, _, _, _, _, _, hw6, hb6, bC_of (g := 0) c6, hm6, hl6, lRel_c hv2⟩
  refine eWp_kz 75 2841 rfl rfl ?_
  exact lloop hox hxs hn n 0 0 0 75 2841 h6 (by omega) (by omega) hI6 (by omega) (by omega) (by omega)
