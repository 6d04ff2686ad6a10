/-! a sign is appended -/
theorem b_i2b {c : Int} (h : 0 ≤ c ∧ c ≤ 127) : (Int32.ofInt c).toInt8.toInt32 = Int32.ofInt c ∧ vp_nar .byte (Int32.ofInt c) = Int32.ofInt c := by
  have a : ∀ n : Nat, n < 128 → (Int32.ofInt (n : Int)).toInt8.toInt32 = Int32.ofInt (n : Int) ∧ vp_nar .byte (Int32.ofInt (n : Int)) = Int32.ofInt (n : Int) := by decide +kernel
  have := a c.toNat (by omega)
  rw [Int.toNat_of_nonneg h.1] at this
  exact this
theorem b_appc5 {d : Nat} {h : eHp} {g : Nat} {L : List Int} (hb : bW h g L) (hcl : eClH (75 + g) h = true) {c : Int} (hc : 0 ≤ c ∧ c ≤ 127) (hl : L.length ≤ 390) : eSp (d + 4) eM_J5_append_3fe6f [.ref 61, vI c] (75 + g) h (bP g h (some (.ref 61)) (fun g' h' => bW h' g' (L ++ [c]))) := by
  have hb9 := hb
  obtain ⟨b, B, ml, h61, hbb, hbd, hml, hfit, hL, hlen, hg5, harr⟩ := hb9
  have hcp := bCap_le hg5
  refine eSp_of [(0, .ref 61), (1, vI c)] rfl rfl ?_
  refine eW_aload_n 1 rfl rfl rfl ?_
  refine eW_aload_n 2 rfl rfl rfl ?_
  refine eW_getfield 5 rfl rfl (Nat.ble_eq_true_of_le (by omega)) rfl h61 rfl ⟨rfl, fun _ h9 => nomatch h9⟩ ?_
  refine eW_iconst 6 rfl rfl ?_
  refine eW_iadd 7 rfl rfl ?_
  refine eW_callM 10 [.ref 61, vI (L.length + 1)] [] (eS_call5 rfl rfl rfl (Nat.ble_eq_true_of_le (by omega)) h61 rfl) rfl rfl rfl (by first | rfl | (simp only [eClL, eClV, List.all_cons, List.all_nil, Bool.and_true, Bool.and_eq_true, Bool.true_and, Nat.ble_eq]; first | done | omega)) (bP_M rfl (b_ensure (d := d + 0) hb hcl (m := L.length + 1) (by omega))) ?_
  intro vh1 nh1 h1 ah1 bh1 fh1
  obtain ⟨rfl, g2, rfl, rfl, rfl, hgg, hfr, hcl2, hb2, hm2⟩ := fh1
  have hb72 := hb2
  obtain ⟨b2, B2, ml2, h612, hbb2, hbd2, hml2, hfit2, hL2, hlen2, hg52, harr2⟩ := hb72
  have hcp2 := bCap_le hg52
  have hbn2 : b2 ≠ 61 ∧ b2 < 75 + g2 := by rcases hbd2 with e | e; exact ⟨by omega, by omega⟩; exact ⟨by omega, by omega⟩
  show eWp _ _ _ (10, [(0, .ref 61), (1, vI c)], [], _, h1, _, _) _
  refine eW_aload_n 11 rfl rfl rfl ?_
  refine eW_callM 14 [.ref 61] [] (eS_call5 rfl rfl rfl (Nat.ble_eq_true_of_le (by omega)) h612 rfl) rfl rfl rfl (by first | rfl | (simp only [eClL, eClV, List.all_cons, List.all_nil, Bool.and_true, Bool.and_eq_true, Bool.true_and, Nat.ble_eq]; first | done | omega)) (eRet_M (b_isLatin1 (d := d + 2) h612 hbb2 hbd2 hg52)) ?_
  intro vh2 nh2 h2 ah2 bh2 fh2
  obtain ⟨rfl, rfl, rfl, rfl, rfl⟩ := fh2
  show eWp _ _ _ (14, [(0, .ref 61), (1, vI c)], [vI 1], _, h1, _, _) _
  refine eW_if_eq 17 rfl rfl (by unfold i32; omega) (fun c3 => absurd c3 (by omega)) (fun c3 => ?_)
  refine eW_iload_n 18 rfl rfl rfl ?_
  refine eW_callM 21 [vI c] [] (eS_callS rfl rfl (Or.inl rfl) rfl) rfl rfl rfl (by first | rfl | (simp only [eClL, eClV, List.all_cons, List.all_nil, Bool.and_true, Bool.and_eq_true, Bool.true_and, Nat.ble_eq]; first | done | omega)) (eRet_M (b_canEncode (d := d + 2) hc)) ?_
  intro vh4 nh4 h4 ah4 bh4 fh4
  obtain ⟨rfl, rfl, rfl, rfl, rfl⟩ := fh4
  show eWp _ _ _ (21, [(0, .ref 61), (1, vI c)], [vI 1], _, h1, _, _) _
  refine eW_if_eq 24 rfl rfl (by unfold i32; omega) (fun c5 => absurd c5 (by omega)) (fun c5 => ?_)
  refine eW_aload_n 25 rfl rfl rfl ?_
  refine eW_getfield 28 rfl rfl (Nat.ble_eq_true_of_le (by omega)) rfl h612 rfl ⟨rfl, fun _ h9 => nomatch h9⟩ ?_
  refine eW_aload_n 29 rfl rfl rfl ?_
  refine eW_dup 30 rfl rfl rfl ?_
  refine eW_getfield 33 rfl rfl (Nat.ble_eq_true_of_le (by omega)) rfl h612 rfl ⟨rfl, fun _ h9 => nomatch h9⟩ ?_
  refine eW_dup_x1 34 rfl rfl rfl ?_
  refine eW_iconst 35 rfl rfl ?_
  refine eW_iadd 36 rfl rfl ?_
  refine eW_putfield 39 [.ref b2, vI 0, vI ml2, vI (L.length + 1)] rfl rfl (Nat.ble_eq_true_of_le (by omega)) rfl h612 rfl rfl ?_
  intro h6 eh6 oh6
  refine eW_iload_n 40 rfl rfl rfl ?_
  refine eW_i2b 41 rfl rfl c (b_i2b hc).1 ?_
  refine eW_bastoreB 42 rfl rfl (Nat.ble_eq_true_of_le (by omega)) ((oh6 _ (by omega)).trans hbb2) (by omega) (by omega) (by unfold i32; omega) (b_i2b hc).2 ?_
  intro h7 eh7 oh7
  refine eW_goto rfl ?_
  refine eW_aload_n 76 rfl rfl rfl ?_
  refine eW_ret_a rfl rfl ?_
  refine ⟨g2, h7, ?_, hgg, fun i h1 h2 h3 => (oh7 i ?_).trans ((oh6 i h1).trans (hfr i h1 h2 h3)), eClH_up (eClH_up hcl2 eh6 ?_ oh6) eh7 rfl oh7, ⟨b2, _, ml2, (oh7 61 ?_).trans (eh6.trans ?_), eh7, hbd2, hml2, ?_, ?_, ?_, hg52, ?_⟩⟩
  · show (_, _, _, 0 + (g2 - g), 0 + (bSum g2 - bSum g)) = _; rw [Nat.zero_add, Nat.zero_add]
  · rcases hbd2 with e | e <;> omega
  · show (Nat.ble (b2 + 1) (75 + g2) && (true && (true && (true && true)))) = true; rw [Nat.ble_eq_true_of_le (by omega)]; rfl
  · omega
  · rw [List.length_append]; rfl
  · intro i; unfold eUp; split; exact hc; exact hfit2 i
  · have e9 := lnR_s (c := c) hL2; rw [show (((L ++ [c]).length : Nat) : Int) = (L.length : Int) + 1 by rw [List.length_append]; rfl]; exact e9
  · rw [List.length_append]; show L.length + 1 ≤ bCap g2; omega
  · intro i h1 h2; by_cases e9 : i = b2; (rw [e9]; exact ⟨_, _, eh7⟩); (rw [oh7 i e9, oh6 i (by omega)]; exact harr2 i h1 h2)
