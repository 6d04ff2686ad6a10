/-! copyOf, ensureCapacity -/
theorem eW_ret_aa {ox : Nat → Option (Nat × Nat × (Nat → Int32))} {C : eM → List Value → Nat → eHp → eR → Prop} {M : eM} {P : eR → Prop} {pc tg : Nat} {lv : eLv} {N : Nat} {h : eHp} {k z : Nat} {a : Nat} {x : FieldType} (hc : eLk pc M.2.2.2.2.2.2 = some (.areturn, tg)) (hr : M.2.2.2.2.1 = some (.array x)) (hp : P (.inl (some (.ref a)), N, h, k, z)) : eWp ox C M (pc, lv, [.ref a], N, h, k, z) P := by
  refine eW_end ?_ hp
  unfold eEnd
  rw [eStep_eq hc]
  simp only [eDo, hr]
theorem b_copyOf {d : Nat} {h : eHp} {b g : Nat} {B : Nat → Int} (hbb : h b = .inl (3, bCap g, .inl (eIA B))) (hbd : b = 62 ∨ (75 ≤ b ∧ b < 75 + g)) (hg5 : g ≤ 5) (hfit : ∀ i, 0 ≤ B i ∧ B i ≤ 127) (hcl : eClH (75 + g) h = true) : eSp (d + 1) eM_J7_copyOf_9075b [.ref b, vI (2 * ((bCap g : Nat) : Int) + 2)] (75 + g) h (fun q => ∃ v9 N9 h9 a9 b9, q = (.inl v9, N9, h9, a9, b9) ∧ v9.toList.all eN9 = true ∧ (fun v9 N9 h9 a9 b9 => some (.ref (75 + g)) = v9 ∧ 75 + g + 1 = N9 ∧ 1 = a9 ∧ bCap (g + 1) = b9 ∧ h9 (75 + g) = .inl (3, bCap (g + 1), .inl (eIA (eCp B (fun _ => 0) 0 0 (bCap g)))) ∧ ∀ i, i ≠ 75 + g → h9 i = h i) v9 N9 h9 a9 b9) := by
  have hcp := bCap_le hg5
  refine eSp_of [(0, .ref b), (1, vI (2 * ((bCap g : Nat) : Int) + 2))] rfl rfl ?_
  refine eW_iload_n 1 rfl rfl rfl ?_
  refine eW_aload_n 2 rfl rfl rfl ?_
  refine eW_arraylength 3 rfl rfl (Nat.ble_eq_true_of_le (by omega)) hbb rfl ?_
  refine eW_icmp_ne 6 rfl rfl (by unfold i32; omega) (by unfold i32; omega) (fun c1 => ?_) (fun c1 => absurd c1 (by omega))
  refine eW_iload_n 15 rfl rfl rfl ?_
  refine eW_newB 17 rfl rfl (by omega) (by simp only [eClA, hcl, eClL, eClV, List.all_cons, List.all_nil, Bool.and_true, Bool.and_eq_true, Bool.true_and, Nat.ble_eq]; omega) ?_
  intro h2 eh2 oh2
  refine eW_astore_n 18 rfl rfl [(2, .ref ((75 + g))), (0, .ref b), (1, vI (2 * ((bCap g : Nat) : Int) + 2))] rfl rfl ?_
  refine eW_aload_n 19 rfl rfl rfl ?_
  refine eW_iconst 20 rfl rfl ?_
  refine eW_aload_n 21 rfl rfl rfl ?_
  refine eW_iconst 22 rfl rfl ?_
  refine eW_aload_n 23 rfl rfl rfl ?_
  refine eW_arraylength 24 rfl rfl (Nat.ble_eq_true_of_le (by omega)) ((oh2 _ (by omega)).trans hbb) rfl ?_
  refine eW_iload_n 25 rfl rfl rfl ?_
  refine eW_min 28 rfl rfl rfl rfl (by unfold i32; omega) (by unfold i32; omega) ?_
  rw [show (gMin ((((bCap g) : Nat) : Int)) (2 * ((bCap g : Nat) : Int) + 2) : Int) = ((bCap g : Nat) : Int) from (by unfold gMin; rw [if_neg (by omega)])]
  refine eW_copyB 31 rfl rfl rfl (Nat.ble_eq_true_of_le (by omega)) (Nat.ble_eq_true_of_le (by omega)) rfl eh2 ((oh2 _ (by omega)).trans hbb) ⟨by omega, by unfold i32; omega⟩ ⟨by omega, by unfold i32; omega⟩ ⟨by omega, by unfold i32; omega⟩ (by omega) (by omega) hfit ?_
  intro h3 eh3 oh3
  refine eW_aload_n 32 rfl rfl rfl ?_
  refine eW_ret_aa rfl rfl ?_
  have hn9 : (2 * ((bCap g : Nat) : Int) + 2).toNat = bCap (g + 1) := by show (2 * ((bCap g : Nat) : Int) + 2).toNat = 2 * bCap g + 2; omega
  refine ⟨_, _, h3, _, _, rfl, rfl, rfl, rfl, rfl, by show _ = 0 + (2 * ((bCap g : Nat) : Int) + 2).toNat; omega, ?_, fun i hi => (oh3 i hi).trans (oh2 i hi)⟩
  rw [← hn9]; exact eh3
theorem b_ensure {d : Nat} {h : eHp} {g : Nat} {L : List Int} (hb : bW h g L) (hcl : eClH (75 + g) h = true) {m : Int} (hm : 0 ≤ m ∧ m ≤ ((bCap g : Nat) : Int) + 2 ∧ m ≤ 400) : eSp (d + 3) eM_J5_ensureCapacityInternal_d00df [.ref 61, vI m] (75 + g) h (bP g h none (fun g' h' => bW h' g' L ∧ m ≤ ((bCap g' : Nat) : Int))) := by
  have hb9 := hb
  obtain ⟨b, B, ml, h61, hbb, hbd, hml, hfit, hL, hlen, hg5, harr⟩ := hb9
  have hb7 : b < 75 + g ∧ b ≠ 61 := by rcases hbd with e | e; exact ⟨by omega, by omega⟩; exact ⟨by omega, by omega⟩
  have hcp := bCap_le hg5
  refine eSp_of [(0, .ref 61), (1, vI m)] rfl rfl ?_
  refine eW_aload_n 1 rfl rfl rfl ?_
  refine eW_getfield 4 rfl rfl (Nat.ble_eq_true_of_le (by omega)) rfl h61 rfl ⟨rfl, fun _ h9 => nomatch h9⟩ ?_
  refine eW_arraylength 5 rfl rfl (Nat.ble_eq_true_of_le (by omega)) hbb rfl ?_
  refine eW_aload_n 6 rfl rfl rfl ?_
  refine eW_getfield 9 rfl rfl (Nat.ble_eq_true_of_le (by omega)) rfl h61 rfl ⟨rfl, fun _ h9 => nomatch h9⟩ ?_
  refine eW_ishr 10 rfl rfl ((((bCap g) : Nat) : Int)) (eShr0 _) ?_
  refine eW_istore_n 11 rfl rfl [(2, vI ((((bCap g) : Nat) : Int))), (0, .ref 61), (1, vI m)] rfl rfl ?_
  refine eW_iload_n 12 rfl rfl rfl ?_
  refine eW_iload_n 13 rfl rfl rfl ?_
  refine eW_isub 14 rfl rfl ?_
  refine eW_if_le 17 rfl rfl (by unfold i32; omega) (fun c1 => ?_) (fun c1 => ?_)
  · refine eW_ret rfl rfl ?_
    exact ⟨g, h, by rw [Nat.sub_self, Nat.sub_self], Nat.le_refl _, fun _ _ _ _ => rfl, hcl, hb, by omega⟩
  · refine eW_aload_n 18 rfl rfl rfl ?_
    refine eW_aload_n 19 rfl rfl rfl ?_
    refine eW_getfield 22 rfl rfl (Nat.ble_eq_true_of_le (by omega)) rfl h61 rfl ⟨rfl, fun _ h9 => nomatch h9⟩ ?_
    refine eW_aload_n 23 rfl rfl rfl ?_
    refine eW_iload_n 24 rfl rfl rfl ?_
    refine eW_callM 27 [.ref 61, vI m] [.ref b, .ref 61] (eS_call5 rfl rfl rfl (Nat.ble_eq_true_of_le (by omega)) h61 rfl) rfl rfl rfl (by first | rfl | (simp only [eClL, eClV, List.all_cons, List.all_nil, Bool.and_true, Bool.and_eq_true, Bool.true_and, Nat.ble_eq]; first | done | omega)) (eRet_M (b_newCap (d := d + 0) h61 hbb hbd hg5 (by omega))) ?_
    intro vh2 nh2 h2 ah2 bh2 fh2
    obtain ⟨rfl, rfl, rfl, rfl, rfl⟩ := fh2
    show eWp _ _ _ (27, [(2, vI ((((bCap g) : Nat) : Int))), (0, .ref 61), (1, vI m)], [vI (2 * ((bCap g : Nat) : Int) + 2), .ref b, .ref 61], _, h, _, _) _
    refine eW_aload_n 28 rfl rfl rfl ?_
    refine eW_getfield 31 rfl rfl (Nat.ble_eq_true_of_le (by omega)) rfl h61 rfl ⟨rfl, fun _ h9 => nomatch h9⟩ ?_
    refine eW_ishl0 32 rfl rfl (2 * ((bCap g : Nat) : Int) + 2) (eShl0 _) ?_
    refine eW_callM 35 [.ref b, vI (2 * ((bCap g : Nat) : Int) + 2)] [.ref 61] (eS_callS rfl rfl (Or.inl rfl) rfl) rfl rfl rfl (by first | rfl | (simp only [eClL, eClV, List.all_cons, List.all_nil, Bool.and_true, Bool.and_eq_true, Bool.true_and, Nat.ble_eq]; first | done | omega)) (b_copyOf (d := d + 1) hbb hbd hg5 hfit hcl) ?_
    intro vh3 nh3 h3 ah3 bh3 fh3
    obtain ⟨rfl, rfl, rfl, rfl, f1h3, f2h3⟩ := fh3
    show eWp _ _ _ (35, [(2, vI ((((bCap g) : Nat) : Int))), (0, .ref 61), (1, vI m)], [.ref ((75 + g)), .ref 61], _, h3, _, _) _
    refine eW_putfield 38 [.ref ((75 + g)), vI 0, vI ml, vI L.length] rfl rfl (Nat.ble_eq_true_of_le (by omega)) rfl ((f2h3 _ (by omega)).trans h61) rfl rfl ?_
    intro h4 eh4 oh4
    refine eW_ret rfl rfl ?_
    have hg4 := bCap_5 hg5 (by omega)
    have hcl1 : eClH (75 + g + 1) h3 = true := eClH_new hcl f1h3 rfl f2h3
    refine ⟨g + 1, h4, ?_, by omega, fun i h1 h2 h3 => (oh4 i h1).trans (f2h3 i (by omega)), eClH_up hcl1 eh4 ?_ oh4, ⟨75 + g, _, ml, eh4, (oh4 (75 + g) (by omega)).trans f1h3, Or.inr (show 75 ≤ 75 + g ∧ 75 + g < 75 + (g + 1) from ⟨by omega, by omega⟩), hml, fun i => ?_, ⟨rfl, fun i hi => ?_⟩, ?_, by omega, fun i h1 h2 => ?_⟩, ?_⟩
    · rw [show g + 1 - g = 1 by omega, show bSum (g + 1) - bSum g = bCap (g + 1) from by show bSum g + bCap (g + 1) - bSum g = _; omega]; show (_, 75 + g + 1, _, 0 + 1, 0 + bCap (g + 1)) = _; rw [Nat.zero_add, Nat.zero_add]; rfl
    · show (Nat.ble (75 + g + 1) (75 + g + 1) && (true && (true && (true && true)))) = true; rw [Nat.ble_eq_true_of_le (Nat.le_refl _)]; rfl
    · unfold eCp; split; exact hfit _; exact (by decide : (0 : Int) ≤ 0 ∧ (0 : Int) ≤ 127)
    · rw [eCp_in (by omega), show 0 + (i - 0) = i by omega]; exact hL.2 i hi
    · show L.length ≤ 2 * bCap g + 2; omega
    · by_cases e9 : i = 75 + g; (rw [e9, oh4 (75 + g) (by omega)]; exact ⟨_, _, f1h3⟩); (rw [oh4 i (by omega), f2h3 i e9]; exact harr i h1 (by omega))
    · show m ≤ ((2 * bCap g + 2 : Nat) : Int); omega
