/-! the builder is cleared, its length, its signs -/
theorem eRet_M0 {C : eM → List Value → Nat → eHp → eR → Prop} {M : eM} {args : List Value} {N : Nat} {h : eHp} (k : ∃ q, C M args N h q ∧ eRet none N h q) : ∃ q, C M args N h q ∧ ∃ v9 N9 h9 a9 b9, q = (.inl v9, N9, h9, a9, b9) ∧ v9.toList.all eN9 = true ∧ (none = v9 ∧ N = N9 ∧ h = h9 ∧ 0 = a9 ∧ 0 = b9) := by
  obtain ⟨q, h1, h2⟩ := k
  exact ⟨q, h1, none, N, h, 0, 0, h2, rfl, rfl, rfl, rfl, rfl, rfl⟩
theorem b_and {c : Int} (h : 0 ≤ c ∧ c ≤ 127) : Int32.ofInt c &&& Int32.ofInt 255 = Int32.ofInt c ∧ ((Int32.ofInt c).toUInt32 % 65536).toInt32 = Int32.ofInt c ∧ vp_nar .char (Int32.ofInt c) = Int32.ofInt c := by
  have a : ∀ n : Nat, n < 128 → Int32.ofInt (n : Int) &&& Int32.ofInt 255 = Int32.ofInt (n : Int) ∧ ((Int32.ofInt (n : Int)).toUInt32 % 65536).toInt32 = Int32.ofInt (n : Int) ∧ vp_nar .char (Int32.ofInt (n : Int)) = Int32.ofInt (n : Int) := by decide +kernel
  have := a c.toNat (by omega)
  rw [Int.toNat_of_nonneg h.1] at this
  exact this
theorem b_set5 {d : Nat} {h : eHp} {g : Nat} {L : List Int} (hb : bW h g L) (hcl : eClH (75 + g) h = true) : eSp (d + 4) eM_J5_setLength_d00df [.ref 61, vI 0] (75 + g) h (bP g h none (fun g' h' => bW h' g' [])) := by
  have hb9 := hb
  obtain ⟨b, B, ml, h61, hbb, hbd, hml, hfit, hL, hlen, hg5, harr⟩ := hb9
  have hcp := bCap_le hg5
  have hbn : b ≠ 61 ∧ b < 75 + g := by rcases hbd with e | e; exact ⟨by omega, by omega⟩; exact ⟨by omega, by omega⟩
  refine eSp_of [(0, .ref 61), (1, vI 0)] rfl rfl ?_
  refine eW_iload_n 1 rfl rfl rfl ?_
  refine eW_if_ge 4 rfl rfl (by unfold i32; omega) (fun c1 => ?_) (fun c1 => absurd c1 (by omega))
  refine eW_aload_n 14 rfl rfl rfl ?_
  refine eW_iload_n 15 rfl rfl rfl ?_
  refine eW_callM 18 [.ref 61, vI 0] [] (eS_call5 rfl rfl rfl (Nat.ble_eq_true_of_le (by omega)) h61 rfl) rfl rfl rfl (by first | rfl | (simp only [eClL, eClV, List.all_cons, List.all_nil, Bool.and_true, Bool.and_eq_true, Bool.true_and, Nat.ble_eq]; first | done | omega)) (bP_M rfl (b_ensure (d := d + 0) hb hcl (m := 0) (by omega))) ?_
  intro vh2 nh2 h2 ah2 bh2 fh2
  obtain ⟨rfl, g2, rfl, rfl, rfl, hgg, hfr, hcl2, hb2, hm2⟩ := fh2
  have hb72 := hb2
  obtain ⟨b2, B2, ml2, h612, hbb2, hbd2, hml2, hfit2, hL2, hlen2, hg52, harr2⟩ := hb72
  have hcp2 := bCap_le hg52
  have hbn2 : b2 ≠ 61 ∧ b2 < 75 + g2 := by rcases hbd2 with e | e; exact ⟨by omega, by omega⟩; exact ⟨by omega, by omega⟩
  show eWp _ _ _ (18, [(0, .ref 61), (1, vI 0)], [], _, h2, _, _) _
  refine eW_aload_n 19 rfl rfl rfl ?_
  refine eW_getfield 22 rfl rfl (Nat.ble_eq_true_of_le (by omega)) rfl h612 rfl ⟨rfl, fun _ h9 => nomatch h9⟩ ?_
  refine eW_iload_n 23 rfl rfl rfl ?_
  refine eW_icmp_ge 26 rfl rfl (by unfold i32; omega) (by unfold i32; omega) (fun c3 => ?_) (fun c3 => absurd c3 (by omega))
  refine eW_aload_n 64 rfl rfl rfl ?_
  refine eW_getfield 67 rfl rfl (Nat.ble_eq_true_of_le (by omega)) rfl h612 rfl ⟨rfl, fun _ h9 => nomatch h9⟩ ?_
  refine eW_iload_n 68 rfl rfl rfl ?_
  refine eW_icmp_le 71 rfl rfl (by unfold i32; omega) (by unfold i32; omega) (fun c4 => ?_) (fun c4 => ?_)
  · refine eW_aload_n 77 rfl rfl rfl ?_
    refine eW_iload_n 78 rfl rfl rfl ?_
    refine eW_putfield 81 [.ref b2, vI 0, vI ml2, vI 0] rfl rfl (Nat.ble_eq_true_of_le (by omega)) rfl h612 rfl rfl ?_
    intro h5 eh5 oh5
    refine eW_ret rfl rfl ?_
    refine ⟨g2, h5, ?_, hgg, fun i h1 h2 h3 => (oh5 i h1).trans (hfr i h1 h2 h3), (eClH_up hcl2 eh5 ?_ oh5), ⟨b2, B2, ml2, eh5, (oh5 b2 hbn2.1).trans hbb2, hbd2, hml2, hfit2, lnR_0, Nat.zero_le _, hg52, ?_⟩⟩
    · show (_, _, _, 0 + (g2 - g), 0 + (bSum g2 - bSum g)) = _; rw [Nat.zero_add, Nat.zero_add]
    · show (Nat.ble (b2 + 1) (75 + g2) && (true && (true && (true && true)))) = true; rw [Nat.ble_eq_true_of_le (by omega)]; rfl
    · intro i h1 h2; rw [oh5 i (by omega)]; exact harr2 i h1 h2
  · refine eW_aload_n 72 rfl rfl rfl ?_
    refine eW_iconst 73 rfl rfl ?_
    refine eW_putfield 76 [.ref b2, vI 0, vI 1, vI L.length] rfl rfl (Nat.ble_eq_true_of_le (by omega)) rfl h612 rfl rfl ?_
    intro h6 eh6 oh6
    refine eW_aload_n 77 rfl rfl rfl ?_
    refine eW_iload_n 78 rfl rfl rfl ?_
    refine eW_putfield 81 [.ref b2, vI 0, vI 1, vI 0] rfl rfl (Nat.ble_eq_true_of_le (by omega)) rfl eh6 rfl rfl ?_
    intro h7 eh7 oh7
    refine eW_ret rfl rfl ?_
    refine ⟨g2, h7, ?_, hgg, fun i h1 h2 h3 => ((oh7 i h1).trans (oh6 i h1)).trans (hfr i h1 h2 h3), (eClH_up (eClH_up hcl2 eh6 ?_ oh6) eh7 ?_ oh7), ⟨b2, B2, 1, eh7, (oh7 b2 hbn2.1).trans ((oh6 b2 hbn2.1).trans hbb2), hbd2, Or.inr rfl, hfit2, lnR_0, Nat.zero_le _, hg52, ?_⟩⟩
    · show (_, _, _, 0 + (g2 - g), 0 + (bSum g2 - bSum g)) = _; rw [Nat.zero_add, Nat.zero_add]
    · show (Nat.ble (b2 + 1) (75 + g2) && (true && (true && (true && true)))) = true; rw [Nat.ble_eq_true_of_le (by omega)]; rfl
    · show (Nat.ble (b2 + 1) (75 + g2) && (true && (true && (true && true)))) = true; rw [Nat.ble_eq_true_of_le (by omega)]; rfl
    · intro i h1 h2; rw [oh7 i (by omega), oh6 i (by omega)]; exact harr2 i h1 h2
theorem b_set {d : Nat} {h : eHp} {g : Nat} {L : List Int} (hb : bW h g L) (hcl : eClH (75 + g) h = true) : eSp (d + 5) eM_J4_setLength_d00df [.ref 61, vI 0] (75 + g) h (bP g h none (fun g' h' => bW h' g' [])) := by
  have hb9 := hb
  obtain ⟨b, B, ml, h61, hbb, hbd, hml, hfit, hL, hlen, hg5, harr⟩ := hb9
  have hcp := bCap_le hg5
  have hbn : b ≠ 61 ∧ b < 75 + g := by rcases hbd with e | e; exact ⟨by omega, by omega⟩; exact ⟨by omega, by omega⟩
  refine eSp_of [(0, .ref 61), (1, vI 0)] rfl rfl ?_
  refine eW_aload_n 1 rfl rfl rfl ?_
  refine eW_iload_n 2 rfl rfl rfl ?_
  refine eW_callM 5 [.ref 61, vI 0] [] (eS_call6 rfl rfl rfl (Nat.ble_eq_true_of_le (by omega)) h61 rfl) rfl rfl rfl (by first | rfl | (simp only [eClL, eClV, List.all_cons, List.all_nil, Bool.and_true, Bool.and_eq_true, Bool.true_and, Nat.ble_eq]; first | done | omega)) (bP_M rfl (b_set5 (d := d + 0) hb hcl)) ?_
  intro vh1 nh1 h1 ah1 bh1 fh1
  obtain ⟨rfl, g2, rfl, rfl, rfl, hgg, hfr, hcl2, hb2⟩ := fh1
  show eWp _ _ _ (5, [(0, .ref 61), (1, vI 0)], [], _, h1, _, _) _
  refine eW_ret rfl rfl ?_
  refine ⟨g2, h1, ?_, hgg, hfr, hcl2, hb2⟩
  show (_, _, _, 0 + (g2 - g), 0 + (bSum g2 - bSum g)) = _; rw [Nat.zero_add, Nat.zero_add]
theorem b_len {d : Nat} {h : eHp} {g : Nat} {L : List Int} (hb : bW h g L) : eSp (d + 2) eM_J4_length_8abf5 [.ref 61] (75 + g) h (eRet (some (vI (L.length : Int))) (75 + g) h) := by
  have hb9 := hb
  obtain ⟨b, B, ml, h61, hbb, hbd, hml, hfit, hL, hlen, hg5, harr⟩ := hb9
  have hcp := bCap_le hg5
  have hbn : b ≠ 61 ∧ b < 75 + g := by rcases hbd with e | e; exact ⟨by omega, by omega⟩; exact ⟨by omega, by omega⟩
  refine eSp_of [(0, .ref 61)] rfl rfl ?_
  refine eW_aload_n 1 rfl rfl rfl ?_
  refine eW_callM 4 [.ref 61] [] (eS_call6 rfl rfl rfl (Nat.ble_eq_true_of_le (by omega)) h61 rfl) rfl rfl rfl (by first | rfl | (simp only [eClL, eClV, List.all_cons, List.all_nil, Bool.and_true, Bool.and_eq_true, Bool.true_and, Nat.ble_eq]; first | done | omega)) (eRet_M (b_length5 (d := d + 0) h61 hbb hbd hg5)) ?_
  intro vh1 nh1 h1 ah1 bh1 fh1
  obtain ⟨rfl, rfl, rfl, rfl, rfl⟩ := fh1
  show eWp _ _ _ (4, [(0, .ref 61)], [vI ((L.length : Int))], _, h, _, _) _
  refine eW_ret_i rfl rfl (Or.inl rfl) ?_
  rfl
theorem b_ck3 {d : Nat} {h : eHp} {N : Nat} {i n : Int} (hi : 0 ≤ i ∧ i < n) (hn : n ≤ 1000) : eSp (d + 1) eM_J3_checkIndex_8e157 [vI i, vI n, .retAddr 3] N h (eRet (some (vI i)) N h) := by
  refine eSp_of [(0, vI i), (1, vI n), (2, .retAddr 3)] rfl rfl ?_
  refine eW_iload_n 1 rfl rfl rfl ?_
  refine eW_if_lt 4 rfl rfl (by unfold i32; omega) (fun c1 => absurd c1 (by omega)) (fun c1 => ?_)
  refine eW_iload_n 5 rfl rfl rfl ?_
  refine eW_iload_n 6 rfl rfl rfl ?_
  refine eW_icmp_lt 9 rfl rfl (by unfold i32; omega) (by unfold i32; omega) (fun c2 => ?_) (fun c2 => absurd c2 (by omega))
  refine eW_iload_n 17 rfl rfl rfl ?_
  refine eW_ret_i rfl rfl (Or.inl rfl) ?_
  rfl
theorem b_ck0 {d : Nat} {h : eHp} {N : Nat} {i n : Int} (hi : 0 ≤ i ∧ i < n) (hn : n ≤ 1000) : eSp (d + 2) eM_J0_checkIndex_df160 [vI i, vI n] N h (eRet none N h) := by
  refine eSp_of [(0, vI i), (1, vI n)] rfl rfl ?_
  refine eW_iload_n 1 rfl rfl rfl ?_
  refine eW_iload_n 2 rfl rfl rfl ?_
  refine eW_getstatic 5 (v := .retAddr 3) rfl rfl rfl ?_
  refine eW_callM 8 [vI i, vI n, .retAddr 3] [] (eS_callS rfl rfl (Or.inl rfl) rfl) rfl rfl rfl (by first | rfl | (simp only [eClL, eClV, List.all_cons, List.all_nil, Bool.and_true, Bool.and_eq_true, Bool.true_and, Nat.ble_eq]; first | done | omega)) (eRet_M (b_ck3 (d := d + 0) hi hn)) ?_
  intro vh1 nh1 h1 ah1 bh1 fh1
  obtain ⟨rfl, rfl, rfl, rfl, rfl⟩ := fh1
  show eWp _ _ _ (8, [(0, vI i), (1, vI n)], [vI i], _, h, _, _) _
  refine eW_pop 9 rfl rfl rfl ?_
  refine eW_ret rfl rfl ?_
  rfl
theorem b_char5 {d : Nat} {h : eHp} {g : Nat} {L : List Int} (hb : bW h g L) {i x : Int} (hi : 0 ≤ i ∧ i < L.length) (hx : L[i.toNat]? = some x) : eSp (d + 3) eM_J5_charAt_5068e [.ref 61, vI i] (75 + g) h (eRet (some (vI x)) (75 + g) h) := by
  have hb9 := hb
  obtain ⟨b, B, ml, h61, hbb, hbd, hml, hfit, hL, hlen, hg5, harr⟩ := hb9
  have hcp := bCap_le hg5
  have hbn : b ≠ 61 ∧ b < 75 + g := by rcases hbd with e | e; exact ⟨by omega, by omega⟩; exact ⟨by omega, by omega⟩
  have hxB : B i.toNat = x := by have e := hL.2 i.toNat (by omega); rw [hx] at e; exact (Option.some.inj e).symm
  have hf9 := hfit i.toNat
  rw [hxB] at hf9
  refine eSp_of [(0, .ref 61), (1, vI i)] rfl rfl ?_
  refine eW_aload_n 1 rfl rfl rfl ?_
  refine eW_getfield 4 rfl rfl (Nat.ble_eq_true_of_le (by omega)) rfl h61 rfl ⟨rfl, fun _ h9 => nomatch h9⟩ ?_
  refine eW_istore_n 5 rfl rfl [(2, vI 0), (0, .ref 61), (1, vI i)] rfl rfl ?_
  refine eW_aload_n 6 rfl rfl rfl ?_
  refine eW_getfield 9 rfl rfl (Nat.ble_eq_true_of_le (by omega)) rfl h61 rfl ⟨rfl, fun _ h9 => nomatch h9⟩ ?_
  refine eW_astore_n 10 rfl rfl [(3, .ref b), (2, vI 0), (0, .ref 61), (1, vI i)] rfl rfl ?_
  refine eW_aload_n 11 rfl rfl rfl ?_
  refine eW_getfield 14 rfl rfl (Nat.ble_eq_true_of_le (by omega)) rfl h61 rfl ⟨rfl, fun _ h9 => nomatch h9⟩ ?_
  refine eW_aload_n 15 rfl rfl rfl ?_
  refine eW_arraylength 16 rfl rfl (Nat.ble_eq_true_of_le (by omega)) hbb rfl ?_
  refine eW_iload_n 17 rfl rfl rfl ?_
  refine eW_ishr 18 rfl rfl ((((bCap g) : Nat) : Int)) (eShr0 _) ?_
  refine eW_min 21 rfl rfl rfl rfl (by unfold i32; omega) (by unfold i32; omega) ?_
  rw [show (gMin L.length ((((bCap g) : Nat) : Int)) : Int) = (L.length : Int) from (by unfold gMin; split <;> omega)]
  refine eW_istore 23 rfl rfl [(4, vI ((L.length : Int))), (3, .ref b), (2, vI 0), (0, .ref 61), (1, vI i)] rfl rfl ?_
  refine eW_iload_n 24 rfl rfl rfl ?_
  refine eW_iload 26 rfl rfl rfl ?_
  refine eW_callM 29 [vI i, vI ((L.length : Int))] [] (eS_callS rfl rfl (Or.inl rfl) rfl) rfl rfl rfl (by first | rfl | (simp only [eClL, eClV, List.all_cons, List.all_nil, Bool.and_true, Bool.and_eq_true, Bool.true_and, Nat.ble_eq]; first | done | omega)) (eRet_M0 (b_ck0 (d := d + 0) (i := i) (n := L.length) (by omega) (by omega))) ?_
  intro vh1 nh1 h1 ah1 bh1 fh1
  obtain ⟨rfl, rfl, rfl, rfl, rfl⟩ := fh1
  show eWp _ _ _ (29, [(4, vI ((L.length : Int))), (3, .ref b), (2, vI 0), (0, .ref 61), (1, vI i)], [], _, h, _, _) _
  refine eW_iload_n 30 rfl rfl rfl ?_
  refine eW_if_ne 33 rfl rfl (by unfold i32; omega) (fun c2 => absurd c2 (by omega)) (fun c2 => ?_)
  refine eW_aload_n 34 rfl rfl rfl ?_
  refine eW_iload_n 35 rfl rfl rfl ?_
  refine eW_baload 36 rfl rfl x (Nat.ble_eq_true_of_le (by omega)) rfl hbb (by omega) (by omega) (by unfold i32; omega) (congrArg Int32.ofInt hxB) ?_
  refine eW_sipush 39 rfl rfl 255 rfl ?_
  refine eW_iand 40 rfl rfl x (b_and hf9).1 ?_
  refine eW_i2c 41 rfl rfl x (b_and hf9).2.1 ?_
  refine eW_ret_i rfl rfl (Or.inr (Or.inr ⟨rfl, (b_and hf9).2.2⟩)) ?_
  rfl
theorem b_char {d : Nat} {h : eHp} {g : Nat} {L : List Int} (hb : bW h g L) {i x : Int} (hi : 0 ≤ i ∧ i < L.length) (hx : L[i.toNat]? = some x) : eSp (d + 4) eM_J4_charAt_5068e [.ref 61, vI i] (75 + g) h (eRet (some (vI x)) (75 + g) h) := by
  have hb9 := hb
  obtain ⟨b, B, ml, h61, hbb, hbd, hml, hfit, hL, hlen, hg5, harr⟩ := hb9
  have hcp := bCap_le hg5
  have hbn : b ≠ 61 ∧ b < 75 + g := by rcases hbd with e | e; exact ⟨by omega, by omega⟩; exact ⟨by omega, by omega⟩
  have hxB : B i.toNat = x := by have e := hL.2 i.toNat (by omega); rw [hx] at e; exact (Option.some.inj e).symm
  have hf9 := hfit i.toNat
  rw [hxB] at hf9
  refine eSp_of [(0, .ref 61), (1, vI i)] rfl rfl ?_
  refine eW_aload_n 1 rfl rfl rfl ?_
  refine eW_iload_n 2 rfl rfl rfl ?_
  refine eW_callM 5 [.ref 61, vI i] [] (eS_call6 rfl rfl rfl (Nat.ble_eq_true_of_le (by omega)) h61 rfl) rfl rfl rfl (by first | rfl | (simp only [eClL, eClV, List.all_cons, List.all_nil, Bool.and_true, Bool.and_eq_true, Bool.true_and, Nat.ble_eq]; first | done | omega)) (eRet_M (b_char5 (d := d + 0) hb hi hx)) ?_
  intro vh1 nh1 h1 ah1 bh1 fh1
  obtain ⟨rfl, rfl, rfl, rfl, rfl⟩ := fh1
  show eWp _ _ _ (5, [(0, .ref 61), (1, vI i)], [vI x], _, h, _, _) _
  refine eW_ret_i rfl rfl (Or.inr (Or.inr ⟨rfl, (b_and hf9).2.2⟩)) ?_
  rfl
