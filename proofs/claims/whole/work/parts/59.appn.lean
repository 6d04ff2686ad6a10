/-! a number is appended -/
theorem eUp_sw {F : Nat → Int} {i j : Nat} {x y : Int} (h : i ≠ j) : eUp (eUp F i x) j y = eUp (eUp F j y) i x := by
  funext k
  unfold eUp
  by_cases e1 : k = j
  · rw [if_pos e1, if_neg (by omega), if_pos e1]
  · rw [if_neg e1]
    by_cases e2 : k = i
    · rw [if_pos e2, if_pos e2]
    · rw [if_neg e2, if_neg e2, if_neg e1]
theorem lnR_dg {B B3 : Nat → Int} {L : List Int} {n : Int} (hn : 0 ≤ n ∧ n ≤ 99) (hL : lnR B L.length L) (h : (n ≤ 9 ∧ B3 = eUp B ((L.length : Int) + ((dg n).length : Int) - 1).toNat (48 + n % 10)) ∨ (9 < n ∧ B3 = eUp (eUp B ((L.length : Int) + ((dg n).length : Int) - 1).toNat (48 + n % 10)) ((L.length : Int) + ((dg n).length : Int) - 1 - 1).toNat (48 + n / 10))) : lnR B3 ((L ++ dg n).length : Nat) (L ++ dg n) ∧ ((∀ i, 0 ≤ B i ∧ B i ≤ 127) → ∀ i, 0 ≤ B3 i ∧ B3 i ≤ 127) := by
  rcases h with ⟨h1, rfl⟩ | ⟨h1, rfl⟩
  · rw [dg_one (by omega)]
    constructor
    · have e := lnR_s (c := 48 + n % 10) hL
      rw [show ((L ++ [48 + n % 10]).length : Int) = (L.length : Int) + 1 by rw [List.length_append]; rfl, show ((L.length : Int) + (([48 + n % 10] : List Int).length : Int) - 1).toNat = (L.length : Int).toNat by show ((L.length : Int) + 1 - 1).toNat = _; omega]
      exact e
    · intro hf i
      unfold eUp
      split
      · omega
      · exact hf i
  · rw [dg_two h1]
    constructor
    · have e := lnR_s (c := 48 + n % 10) (lnR_s (c := 48 + n / 10 % 10) hL)
      rw [show L ++ [48 + n / 10 % 10, 48 + n % 10] = (L ++ [48 + n / 10 % 10]) ++ [48 + n % 10] by simp, show (((L ++ [48 + n / 10 % 10]) ++ [48 + n % 10]).length : Int) = (L.length : Int) + 1 + 1 by rw [List.length_append, List.length_append]; rfl, show ((L.length : Int) + (([48 + n / 10 % 10, 48 + n % 10] : List Int).length : Int) - 1).toNat = ((L.length : Int) + 1).toNat by show ((L.length : Int) + 2 - 1).toNat = _; omega, show ((L.length : Int) + (([48 + n / 10 % 10, 48 + n % 10] : List Int).length : Int) - 1 - 1).toNat = (L.length : Int).toNat by show ((L.length : Int) + 2 - 1 - 1).toNat = _; omega, eUp_sw (by omega), show 48 + n / 10 = 48 + n / 10 % 10 by omega]
      exact e
    · intro hf i
      unfold eUp
      split
      · omega
      · split
        · omega
        · exact hf i
theorem b_appi5 {d : Nat} {h : eHp} {g : Nat} {L : List Int} (hb : bW h g L) (hcl : eClH (75 + g) h = true) {n : Int} (hn : 0 ≤ n ∧ n ≤ 99) (hl : L.length ≤ 390) : eSp (d + 4) eM_J5_append_c97b9 [.ref 61, vI n] (75 + g) h (bP g h (some (.ref 61)) (fun g' h' => bW h' g' (L ++ dg n))) := by
  have hb9 := hb
  obtain ⟨b, B, ml, h61, hbb, hbd, hml, hfit, hL, hlen, hg5, harr⟩ := hb9
  have hcp := bCap_le hg5
  have hdl := dg_len n
  refine eSp_of [(0, .ref 61), (1, vI n)] rfl rfl ?_
  refine eW_aload_n 1 rfl rfl rfl ?_
  refine eW_getfield 4 rfl rfl (Nat.ble_eq_true_of_le (by omega)) rfl h61 rfl ⟨rfl, fun _ h9 => nomatch h9⟩ ?_
  refine eW_istore_n 5 rfl rfl [(2, vI L.length), (0, .ref 61), (1, vI n)] rfl rfl ?_
  refine eW_iload_n 6 rfl rfl rfl ?_
  refine eW_iload_n 7 rfl rfl rfl ?_
  refine eW_callM 10 [vI n] [vI L.length] (eS_callS rfl rfl (Or.inl rfl) rfl) rfl rfl rfl (by first | rfl | (simp only [eClL, eClV, List.all_cons, List.all_nil, Bool.and_true, Bool.and_eq_true, Bool.true_and, Nat.ble_eq]; first | done | omega)) (eRet_M (b_size (d := d + 2) hn)) ?_
  intro vh1 nh1 h1 ah1 bh1 fh1
  obtain ⟨rfl, rfl, rfl, rfl, rfl⟩ := fh1
  show eWp _ _ _ (10, [(2, vI L.length), (0, .ref 61), (1, vI n)], [vI (((dg n).length : Int)), vI L.length], _, h, _, _) _
  refine eW_iadd 11 rfl rfl ?_
  refine eW_istore_n 12 rfl rfl [(3, vI (L.length + (((dg n).length : Int)))), (2, vI L.length), (0, .ref 61), (1, vI n)] rfl rfl ?_
  refine eW_aload_n 13 rfl rfl rfl ?_
  refine eW_iload_n 14 rfl rfl rfl ?_
  refine eW_callM 17 [.ref 61, vI (L.length + (((dg n).length : Int)))] [] (eS_call5 rfl rfl rfl (Nat.ble_eq_true_of_le (by omega)) h61 rfl) rfl rfl rfl (by first | rfl | (simp only [eClL, eClV, List.all_cons, List.all_nil, Bool.and_true, Bool.and_eq_true, Bool.true_and, Nat.ble_eq]; first | done | omega)) (bP_M rfl (b_ensure (d := d + 0) hb hcl (m := L.length + (((dg n).length : Int))) (by omega))) ?_
  intro vh2 nh2 h2 ah2 bh2 fh2
  obtain ⟨rfl, g2, rfl, rfl, rfl, hgg, hfr, hcl2, hb2, hm2⟩ := fh2
  have hb72 := hb2
  obtain ⟨b2, B2, ml2, h612, hbb2, hbd2, hml2, hfit2, hL2, hlen2, hg52, harr2⟩ := hb72
  have hcp2 := bCap_le hg52
  have hbn2 : b2 ≠ 61 ∧ b2 < 75 + g2 := by rcases hbd2 with e | e; exact ⟨by omega, by omega⟩; exact ⟨by omega, by omega⟩
  show eWp _ _ _ (17, [(3, vI (L.length + (((dg n).length : Int)))), (2, vI L.length), (0, .ref 61), (1, vI n)], [], _, h2, _, _) _
  refine eW_aload_n 18 rfl rfl rfl ?_
  refine eW_callM 21 [.ref 61] [] (eS_call5 rfl rfl rfl (Nat.ble_eq_true_of_le (by omega)) h612 rfl) rfl rfl rfl (by first | rfl | (simp only [eClL, eClV, List.all_cons, List.all_nil, Bool.and_true, Bool.and_eq_true, Bool.true_and, Nat.ble_eq]; first | done | omega)) (eRet_M (b_isLatin1 (d := d + 2) h612 hbb2 hbd2 hg52)) ?_
  intro vh3 nh3 h3 ah3 bh3 fh3
  obtain ⟨rfl, rfl, rfl, rfl, rfl⟩ := fh3
  show eWp _ _ _ (21, [(3, vI (L.length + (((dg n).length : Int)))), (2, vI L.length), (0, .ref 61), (1, vI n)], [vI 1], _, h2, _, _) _
  refine eW_if_eq 24 rfl rfl (by unfold i32; omega) (fun c4 => absurd c4 (by omega)) (fun c4 => ?_)
  refine eW_iload_n 25 rfl rfl rfl ?_
  refine eW_iload_n 26 rfl rfl rfl ?_
  refine eW_aload_n 27 rfl rfl rfl ?_
  refine eW_getfield 30 rfl rfl (Nat.ble_eq_true_of_le (by omega)) rfl h612 rfl ⟨rfl, fun _ h9 => nomatch h9⟩ ?_
  refine eW_callM 33 [vI n, vI (L.length + (((dg n).length : Int))), .ref b2] [] (eS_callS rfl rfl (Or.inl rfl) rfl) rfl rfl rfl (by first | rfl | (simp only [eClL, eClV, List.all_cons, List.all_nil, Bool.and_true, Bool.and_eq_true, Bool.true_and, Nat.ble_eq]; first | done | omega)) (b_chars (d := d + 2) hn (x := (L.length : Int) + ((dg n).length : Int)) (by have := hm2; omega) (by omega) hbb2 ⟨hbn2.2, hbn2.1⟩) ?_
  intro vh5 nh5 h5 ah5 bh5 fh5
  obtain ⟨⟨r9, rfl⟩, rfl, rfl, rfl, hch, hof⟩ := fh5
  obtain ⟨B3, hb3, hd3⟩ : ∃ B3 : Nat → Int, h5 b2 = .inl (3, bCap g2, .inl (eIA B3)) ∧ ((n ≤ 9 ∧ B3 = eUp B2 ((L.length : Int) + ((dg n).length : Int) - 1).toNat (48 + n % 10)) ∨ (9 < n ∧ B3 = eUp (eUp B2 ((L.length : Int) + ((dg n).length : Int) - 1).toNat (48 + n % 10)) ((L.length : Int) + ((dg n).length : Int) - 1 - 1).toNat (48 + n / 10))) := by rcases hch with ⟨e1, e2⟩ | ⟨e1, e2⟩; exact ⟨_, e2, Or.inl ⟨e1, rfl⟩⟩; exact ⟨_, e2, Or.inr ⟨e1, rfl⟩⟩
  have hdg3 := lnR_dg hn hL2 hd3
  show eWp _ _ _ (33, [(3, vI (L.length + (((dg n).length : Int)))), (2, vI L.length), (0, .ref 61), (1, vI n)], [vI r9], _, h5, _, _) _
  refine eW_pop 34 rfl rfl rfl ?_
  refine eW_goto rfl ?_
  refine eW_aload_n 49 rfl rfl rfl ?_
  refine eW_iload_n 50 rfl rfl rfl ?_
  refine eW_putfield 53 [.ref b2, vI 0, vI ml2, vI (L.length + (((dg n).length : Int)))] rfl rfl (Nat.ble_eq_true_of_le (by omega)) rfl ((hof 61 (by omega)).trans h612) rfl rfl ?_
  intro h6 eh6 oh6
  refine eW_aload_n 54 rfl rfl rfl ?_
  refine eW_ret_a rfl rfl ?_
  have hl9 : ((L ++ dg n).length : Int) = (L.length : Int) + ((dg n).length : Int) := by rw [List.length_append]; rfl
  refine ⟨g2, h6, ?_, hgg, fun i h1 h2 h3 => (oh6 i h1).trans ((hof i ?_).trans (hfr i h1 h2 h3)), eClH_up (eClH_up hcl2 hb3 rfl hof) eh6 ?_ oh6, ⟨b2, B3, ml2, eh6.trans ?_, (oh6 b2 hbn2.1).trans hb3, hbd2, hml2, hdg3.2 hfit2, hdg3.1, ?_, hg52, ?_⟩⟩
  · show (_, _, _, 0 + (g2 - g), 0 + (bSum g2 - bSum g)) = _; rw [Nat.zero_add, Nat.zero_add]
  · rcases hbd2 with e | e <;> omega
  · show (Nat.ble (b2 + 1) (75 + g2) && (true && (true && (true && true)))) = true; rw [Nat.ble_eq_true_of_le (by omega)]; rfl
  · rw [hl9]
  · have := hm2; omega
  · intro i h1 h2; by_cases e9 : i = b2; (rw [e9, oh6 b2 hbn2.1]; exact ⟨_, _, hb3⟩); (rw [oh6 i (by omega), hof i e9]; exact harr2 i h1 h2)
theorem b_appi {d : Nat} {h : eHp} {g : Nat} {L : List Int} (hb : bW h g L) (hcl : eClH (75 + g) h = true) {n : Int} (hn : 0 ≤ n ∧ n ≤ 99) (hl : L.length ≤ 390) : eSp (d + 5) eM_J4_append_bf812 [.ref 61, vI n] (75 + g) h (bP g h (some (.ref 61)) (fun g' h' => bW h' g' (L ++ dg n))) := by
  have hb9 := hb
  obtain ⟨b, B, ml, h61, hbb, hbd, hml, hfit, hL, hlen, hg5, harr⟩ := hb9
  have hcp := bCap_le hg5
  refine eSp_of [(0, .ref 61), (1, vI n)] rfl rfl ?_
  refine eW_aload_n 1 rfl rfl rfl ?_
  refine eW_iload_n 2 rfl rfl rfl ?_
  refine eW_callM 5 [.ref 61, vI n] [] (eS_call6 rfl rfl rfl (Nat.ble_eq_true_of_le (by omega)) h61 rfl) rfl rfl rfl (by first | rfl | (simp only [eClL, eClV, List.all_cons, List.all_nil, Bool.and_true, Bool.and_eq_true, Bool.true_and, Nat.ble_eq]; first | done | omega)) (bP_M rfl (b_appi5 (d := d + 0) hb hcl hn hl)) ?_
  intro vh1 nh1 h1 ah1 bh1 fh1
  obtain ⟨rfl, g2, rfl, rfl, rfl, hgg, hfr, hcl2, hb2⟩ := fh1
  show eWp _ _ _ (5, [(0, .ref 61), (1, vI n)], [.ref 61], _, h1, _, _) _
  refine eW_pop 6 rfl rfl rfl ?_
  refine eW_aload_n 7 rfl rfl rfl ?_
  refine eW_ret_a rfl rfl ?_
  refine ⟨g2, h1, ?_, hgg, hfr, hcl2, hb2⟩
  show (_, _, _, 0 + (g2 - g), 0 + (bSum g2 - bSum g)) = _; rw [Nat.zero_add, Nat.zero_add]
