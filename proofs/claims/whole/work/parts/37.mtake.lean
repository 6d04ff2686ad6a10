theorem m_takes_l {d N k z : Nat} {h0 : eHp} {s : Nat → Int} {A : Nat → Nat → Int} (hN : 75 ≤ N) {P : eR → Prop} {g1 : Nat → Int} {n p t l a9 b9 : Int} (hn : 0 ≤ n ∧ n < 40) (hp : 0 ≤ p ∧ p ≤ n) (hg : g1 0 = n) : ∀ (m9 : Nat) (k9 : Int) (g2 : Nat → Int) (h : eHp), n - k9 ≤ m9 → p ≤ k9 ∧ k9 ≤ n → mM h s (mUp A 0 g2) → mFr h0 h → (∀ j, j < 22 → g2 j = g1 j) → (∀ i : Nat, i < 40 → g2 (22 + i) = gDel (fun j => g1 (22 + j)) p.toNat (k9 + 1).toNat i) → (∀ (g2 : Nat → Int) (h : eHp), mM h s (mUp A 0 g2) → mFr h0 h → (∀ j, j < 22 → g2 j = g1 j) → (∀ i : Nat, i < 40 → g2 (22 + i) = gDel (fun j => g1 (22 + j)) p.toNat (n + 1).toNat i) → eWp eOx (eEv (d + 1)) eM_X7_takes (102, [(0, .ref 63), (1, vI p), (2, vI t), (3, vI l), (4, vI a9), (5, vI b9)], [], N, h, k, z) P) → eWp eOx (eEv (d + 1)) eM_X7_takes (63, [(0, .ref 63), (1, vI p), (2, vI t), (3, vI l), (4, vI a9), (5, vI b9), (6, vI k9)], [], N, h, k, z) P := by
  intro m9
  induction m9 with
  | zero =>
    intro k9 g2 h hm9 q0 q1 q2 q3 q4 kk
    refine eW_iload 65 rfl rfl rfl ?_
    refine eW_aload_n 66 rfl rfl rfl ?_
    refine eW_getfield 69 rfl rfl (Nat.ble_eq_true_of_le (by omega)) rfl q1.1 rfl ⟨rfl, fun _ h9 => nomatch h9⟩ ?_
    refine eW_iconst 70 rfl rfl ?_
    refine eW_iaload 71 rfl rfl n (Nat.ble_eq_true_of_le (by omega)) (show h 64 = .inl (0, 62, .inl (eIA g2)) from q1.2.1) (by omega) (by omega) (by unfold i32; omega) (congrArg Int32.ofInt ((q3 0 (by decide)).trans hg)) ?_
    refine eW_icmp_ge 74 rfl rfl (by unfold i32; omega) (by unfold i32; omega) (fun c1 => ?_) (fun c1 => ?_)
    · refine eW_re [(0, .ref 63), (1, vI p), (2, vI t), (3, vI l), (4, vI a9), (5, vI b9)] rfl rfl (List.forall_mem_cons.mpr ⟨rfl, List.forall_mem_cons.mpr ⟨rfl, List.forall_mem_cons.mpr ⟨rfl, List.forall_mem_cons.mpr ⟨rfl, List.forall_mem_cons.mpr ⟨rfl, List.forall_mem_cons.mpr ⟨rfl, fun _ h => absurd h List.not_mem_nil⟩⟩⟩⟩⟩⟩) (List.forall_mem_cons.mpr ⟨Or.inl rfl, List.forall_mem_cons.mpr ⟨Or.inl rfl, List.forall_mem_cons.mpr ⟨Or.inl rfl, List.forall_mem_cons.mpr ⟨Or.inl rfl, List.forall_mem_cons.mpr ⟨Or.inl rfl, List.forall_mem_cons.mpr ⟨Or.inl rfl, List.forall_mem_cons.mpr ⟨Or.inr ⟨_, rfl⟩, fun _ h => absurd h List.not_mem_nil⟩⟩⟩⟩⟩⟩⟩) ?_
      refine kk g2 h q1 q2 q3 (fun i hi => ?_)
      rw [q4 i hi, show k9 = n by omega]
    · refine eW_aload_n 75 rfl rfl rfl ?_
      refine eW_getfield 78 rfl rfl (Nat.ble_eq_true_of_le (by omega)) rfl q1.1 rfl ⟨rfl, fun _ h9 => nomatch h9⟩ ?_
      refine eW_bipush 80 rfl rfl 22 rfl ?_
      refine eW_iload 82 rfl rfl rfl ?_
      refine eW_iadd 83 rfl rfl ?_
      refine eW_aload_n 84 rfl rfl rfl ?_
      refine eW_getfield 87 rfl rfl (Nat.ble_eq_true_of_le (by omega)) rfl q1.1 rfl ⟨rfl, fun _ h9 => nomatch h9⟩ ?_
      refine eW_bipush 89 rfl rfl 22 rfl ?_
      refine eW_iload 91 rfl rfl rfl ?_
      refine eW_iadd 92 rfl rfl ?_
      refine eW_iconst 93 rfl rfl ?_
      refine eW_iadd 94 rfl rfl ?_
      refine eW_iaload 95 rfl rfl (g2 ((22 + k9) + 1).toNat) (Nat.ble_eq_true_of_le (by omega)) (show h 64 = .inl (0, 62, .inl (eIA g2)) from q1.2.1) (by omega) (by omega) (by unfold i32; omega) rfl ?_
      refine eW_iastore 96 rfl rfl (Nat.ble_eq_true_of_le (by omega)) (show h 64 = .inl (0, 62, .inl (eIA g2)) from q1.2.1) (by omega) (by omega) (by unfold i32; omega) rfl ?_
      intro h2 eh2 oh2
      have hmh2 : mM h2 s (mUp A 0 (eUp g2 (22 + k9).toNat (g2 ((22 + k9) + 1).toNat))) := mM_0 q1 eh2 oh2 ⟨rfl, rfl, rfl, rfl, rfl, rfl, rfl, rfl⟩
      have frh2 : mFr h0 h2 := mFr_a q2 (by decide) oh2
      refine eW_iinc 99 rfl rfl [(6, vI (k9 + 1)), (0, .ref 63), (1, vI p), (2, vI t), (3, vI l), (4, vI a9), (5, vI b9)] rfl rfl rfl ?_
      refine eW_goto rfl ?_
      refine eW_re [(0, .ref 63), (1, vI p), (2, vI t), (3, vI l), (4, vI a9), (5, vI b9), (6, vI (k9 + 1))] rfl rfl (List.forall_mem_cons.mpr ⟨rfl, List.forall_mem_cons.mpr ⟨rfl, List.forall_mem_cons.mpr ⟨rfl, List.forall_mem_cons.mpr ⟨rfl, List.forall_mem_cons.mpr ⟨rfl, List.forall_mem_cons.mpr ⟨rfl, List.forall_mem_cons.mpr ⟨rfl, fun _ h => absurd h List.not_mem_nil⟩⟩⟩⟩⟩⟩⟩) (List.forall_mem_cons.mpr ⟨Or.inl rfl, List.forall_mem_cons.mpr ⟨Or.inl rfl, List.forall_mem_cons.mpr ⟨Or.inl rfl, List.forall_mem_cons.mpr ⟨Or.inl rfl, List.forall_mem_cons.mpr ⟨Or.inl rfl, List.forall_mem_cons.mpr ⟨Or.inl rfl, List.forall_mem_cons.mpr ⟨Or.inl rfl, fun _ h => absurd h List.not_mem_nil⟩⟩⟩⟩⟩⟩⟩) ?_
      exact absurd hm9 (by omega)
  | succ m9 ih =>
    intro k9 g2 h hm9 q0 q1 q2 q3 q4 kk
    refine eW_iload 65 rfl rfl rfl ?_
    refine eW_aload_n 66 rfl rfl rfl ?_
    refine eW_getfield 69 rfl rfl (Nat.ble_eq_true_of_le (by omega)) rfl q1.1 rfl ⟨rfl, fun _ h9 => nomatch h9⟩ ?_
    refine eW_iconst 70 rfl rfl ?_
    refine eW_iaload 71 rfl rfl n (Nat.ble_eq_true_of_le (by omega)) (show h 64 = .inl (0, 62, .inl (eIA g2)) from q1.2.1) (by omega) (by omega) (by unfold i32; omega) (congrArg Int32.ofInt ((q3 0 (by decide)).trans hg)) ?_
    refine eW_icmp_ge 74 rfl rfl (by unfold i32; omega) (by unfold i32; omega) (fun c1 => ?_) (fun c1 => ?_)
    · refine eW_re [(0, .ref 63), (1, vI p), (2, vI t), (3, vI l), (4, vI a9), (5, vI b9)] rfl rfl (List.forall_mem_cons.mpr ⟨rfl, List.forall_mem_cons.mpr ⟨rfl, List.forall_mem_cons.mpr ⟨rfl, List.forall_mem_cons.mpr ⟨rfl, List.forall_mem_cons.mpr ⟨rfl, List.forall_mem_cons.mpr ⟨rfl, fun _ h => absurd h List.not_mem_nil⟩⟩⟩⟩⟩⟩) (List.forall_mem_cons.mpr ⟨Or.inl rfl, List.forall_mem_cons.mpr ⟨Or.inl rfl, List.forall_mem_cons.mpr ⟨Or.inl rfl, List.forall_mem_cons.mpr ⟨Or.inl rfl, List.forall_mem_cons.mpr ⟨Or.inl rfl, List.forall_mem_cons.mpr ⟨Or.inl rfl, List.forall_mem_cons.mpr ⟨Or.inr ⟨_, rfl⟩, fun _ h => absurd h List.not_mem_nil⟩⟩⟩⟩⟩⟩⟩) ?_
      refine kk g2 h q1 q2 q3 (fun i hi => ?_)
      rw [q4 i hi, show k9 = n by omega]
    · refine eW_aload_n 75 rfl rfl rfl ?_
      refine eW_getfield 78 rfl rfl (Nat.ble_eq_true_of_le (by omega)) rfl q1.1 rfl ⟨rfl, fun _ h9 => nomatch h9⟩ ?_
      refine eW_bipush 80 rfl rfl 22 rfl ?_
      refine eW_iload 82 rfl rfl rfl ?_
      refine eW_iadd 83 rfl rfl ?_
      refine eW_aload_n 84 rfl rfl rfl ?_
      refine eW_getfield 87 rfl rfl (Nat.ble_eq_true_of_le (by omega)) rfl q1.1 rfl ⟨rfl, fun _ h9 => nomatch h9⟩ ?_
      refine eW_bipush 89 rfl rfl 22 rfl ?_
      refine eW_iload 91 rfl rfl rfl ?_
      refine eW_iadd 92 rfl rfl ?_
      refine eW_iconst 93 rfl rfl ?_
      refine eW_iadd 94 rfl rfl ?_
      refine eW_iaload 95 rfl rfl (g2 ((22 + k9) + 1).toNat) (Nat.ble_eq_true_of_le (by omega)) (show h 64 = .inl (0, 62, .inl (eIA g2)) from q1.2.1) (by omega) (by omega) (by unfold i32; omega) rfl ?_
      refine eW_iastore 96 rfl rfl (Nat.ble_eq_true_of_le (by omega)) (show h 64 = .inl (0, 62, .inl (eIA g2)) from q1.2.1) (by omega) (by omega) (by unfold i32; omega) rfl ?_
      intro h2 eh2 oh2
      have hmh2 : mM h2 s (mUp A 0 (eUp g2 (22 + k9).toNat (g2 ((22 + k9) + 1).toNat))) := mM_0 q1 eh2 oh2 ⟨rfl, rfl, rfl, rfl, rfl, rfl, rfl, rfl⟩
      have frh2 : mFr h0 h2 := mFr_a q2 (by decide) oh2
      refine eW_iinc 99 rfl rfl [(6, vI (k9 + 1)), (0, .ref 63), (1, vI p), (2, vI t), (3, vI l), (4, vI a9), (5, vI b9)] rfl rfl rfl ?_
      refine eW_goto rfl ?_
      refine eW_re [(0, .ref 63), (1, vI p), (2, vI t), (3, vI l), (4, vI a9), (5, vI b9), (6, vI (k9 + 1))] rfl rfl (List.forall_mem_cons.mpr ⟨rfl, List.forall_mem_cons.mpr ⟨rfl, List.forall_mem_cons.mpr ⟨rfl, List.forall_mem_cons.mpr ⟨rfl, List.forall_mem_cons.mpr ⟨rfl, List.forall_mem_cons.mpr ⟨rfl, List.forall_mem_cons.mpr ⟨rfl, fun _ h => absurd h List.not_mem_nil⟩⟩⟩⟩⟩⟩⟩) (List.forall_mem_cons.mpr ⟨Or.inl rfl, List.forall_mem_cons.mpr ⟨Or.inl rfl, List.forall_mem_cons.mpr ⟨Or.inl rfl, List.forall_mem_cons.mpr ⟨Or.inl rfl, List.forall_mem_cons.mpr ⟨Or.inl rfl, List.forall_mem_cons.mpr ⟨Or.inl rfl, List.forall_mem_cons.mpr ⟨Or.inl rfl, fun _ h => absurd h List.not_mem_nil⟩⟩⟩⟩⟩⟩⟩) ?_
      refine ih (k9 + 1) _ h2 (by omega) (by omega) hmh2 frh2 (fun j hj => by rw [eUp_ne (by omega)]; exact q3 j hj) (fun i hi => ?_) kk
      have hx : g2 (22 + k9 + 1).toNat = gDel (fun j => g1 (22 + j)) p.toNat (k9 + 1).toNat (k9 + 1).toNat := by rw [show (22 + k9 + 1).toNat = 22 + (k9 + 1).toNat by omega]; exact q4 _ (by omega)
      have hd := gDel_step (fun j => g1 (22 + j)) (b := k9 + 1) hp.1 (by omega)
      rw [show (k9 + 1 - 1).toNat = k9.toNat by omega] at hd
      rw [eUp_sh (by omega), hx, ← hd]
      exact eUp_cg (q4 i hi)
theorem m_takes_0 {d N : Nat} {h : eHp} {s : Nat → Int} {A : Nat → Nat → Int} (hm : mM h s A) (hN : 75 ≤ N) {c : Int} {G : eGd} (hr : rR G (A 0)) (hI : gI c G) {p t l : Int} (hM : gMay G (p, t, l)) (ht0 : G.2.2.2.2.1 = 0) : eSp (d + 2) eM_X7_takes [.ref 63, vI p, vI t, vI l] N h (eChg none N (fun h' => ∃ g', mD h s (mUp A 0 g') h' ∧ rR (gMake G (p, t, l)) g')) := by
  refine eSp_of [(0, .ref 63), (1, vI p), (2, vI t), (3, vI l)] rfl rfl ?_
  have hG := hI.1
  have hG9 := hG
  obtain ⟨g1, g2, g3, g4⟩ := hG9
  have hM9 := hM
  obtain ⟨hp9, ht9, hl9⟩ := hM9
  dsimp only at hp9 ht9 hl9
  have hml := gLets_iff.mp hl9
  obtain ⟨hl0, hl1, hl2, -⟩ := hml
  have hmp := hI.2.2.1 p.toNat (by omega)
  have hs40 := hI.2.2.2.1
  have hge := gSum_ge1 (F := G.1) (p := p.toNat) (n := G.2.2.2.1.toNat) (by omega) (fun i hi => (hI.2.2.1 i (by omega)).1)
  obtain ⟨d0, d1, d2, d3, d4, d5, d6, d7⟩ := gTls_0 (t := t) ht0
  have u3 := hI.2.2.2.2.1 3 (by decide)
  have u7 := hI.2.2.2.2.1 7 (by decide)
  refine eW_bipush 2 rfl rfl 14 rfl ?_
  refine eW_iconst 3 rfl rfl ?_
  refine eW_aload_n 4 rfl rfl rfl ?_
  refine eW_getfield 7 rfl rfl (Nat.ble_eq_true_of_le (by omega)) rfl hm.1 rfl ⟨rfl, fun _ h9 => nomatch h9⟩ ?_
  refine eW_iconst 8 rfl rfl ?_
  refine eW_iaload 9 rfl rfl 0 (Nat.ble_eq_true_of_le (by omega)) (show h 64 = .inl (0, 62, .inl (eIA (A 0))) from hm.2.1) (by omega) (by omega) (by unfold i32; omega) (congrArg Int32.ofInt (hr.2.1.trans ht0)) ?_
  refine eW_imul 10 rfl rfl ?_
  refine eW_iadd 11 rfl rfl ?_
  refine eW_istore 13 rfl rfl [(4, vI (14 + (4 * 0))), (0, .ref 63), (1, vI p), (2, vI t), (3, vI l)] rfl rfl ?_
  refine eW_aload_n 14 rfl rfl rfl ?_
  refine eW_iload_n 15 rfl rfl rfl ?_
  have hmbq1 := g3 p.toNat (by omega)
  refine eW_callV 18 [.ref 63, vI p] [] [vI (G.1 p.toNat)] rfl rfl rfl rfl (Nat.ble_eq_true_of_le (by omega)) hm.1 rfl rfl rfl (m_marbles (d := d + 0) hm hN hr hG (by omega)) rfl rfl ?_
  refine eW_iload_n 19 rfl rfl rfl ?_
  refine eW_isub 20 rfl rfl ?_
  refine eW_iload_n 21 rfl rfl rfl ?_
  refine eW_isub 22 rfl rfl ?_
  refine eW_istore 24 rfl rfl [(5, vI (((G.1 p.toNat) - t) - l)), (4, vI (14 + (4 * 0))), (0, .ref 63), (1, vI p), (2, vI t), (3, vI l)] rfl rfl ?_
  refine eW_aload_n 25 rfl rfl rfl ?_
  refine eW_getfield 28 rfl rfl (Nat.ble_eq_true_of_le (by omega)) rfl hm.1 rfl ⟨rfl, fun _ h9 => nomatch h9⟩ ?_
  refine eW_bipush 30 rfl rfl 22 rfl ?_
  refine eW_iload_n 31 rfl rfl rfl ?_
  refine eW_iadd 32 rfl rfl ?_
  refine eW_iload_n 33 rfl rfl rfl ?_
  refine eW_iastore 34 rfl rfl (Nat.ble_eq_true_of_le (by omega)) (show h 64 = .inl (0, 62, .inl (eIA (A 0))) from hm.2.1) (by omega) (by omega) (by unfold i32; omega) rfl ?_
  intro h2 eh2 oh2
  have hmh2 : mM h2 s (mUp A 0 (eUp (A 0) (22 + p).toNat l)) := mM_0 hm eh2 oh2 ⟨rfl, rfl, rfl, rfl, rfl, rfl, rfl, rfl⟩
  have frh2 : mFr h h2 := mFr_a (fun _ _ => rfl) (by decide) oh2
  refine eW_iload 36 rfl rfl rfl ?_
  refine eW_if_le 39 rfl rfl (by unfold i32; omega) (fun c3 => ?_) (fun c3 => ?_)
  · refine eW_iload_n 47 rfl rfl rfl ?_
    refine eW_if_ne 50 rfl rfl (by unfold i32; omega) (fun c4 => ?_) (fun c4 => ?_)
    · refine eW_aload_n 118 rfl rfl rfl ?_
      refine eW_getfield 121 rfl rfl (Nat.ble_eq_true_of_le (by omega)) rfl hmh2.1 rfl ⟨rfl, fun _ h9 => nomatch h9⟩ ?_
      refine eW_iconst 122 rfl rfl ?_
      refine eW_dup2 123 rfl rfl rfl ?_
      refine eW_iaload 124 rfl rfl ((G.2.2.1 1 + G.2.2.1 5)) (Nat.ble_eq_true_of_le (by omega)) (show h2 64 = .inl (0, 62, .inl (eIA (eUp (A 0) (22 + p).toNat l))) from hmh2.2.1) (by omega) (by omega) (by unfold i32; omega) (congrArg Int32.ofInt (Eq.trans (eUp_ne (by omega)) hr.2.2.2.1)) ?_
      refine eW_iload_n 125 rfl rfl rfl ?_
      refine eW_iadd 126 rfl rfl ?_
      refine eW_iastore 127 rfl rfl (Nat.ble_eq_true_of_le (by omega)) (show h2 64 = .inl (0, 62, .inl (eIA (eUp (A 0) (22 + p).toNat l))) from hmh2.2.1) (by omega) (by omega) (by unfold i32; omega) rfl ?_
      intro h5 eh5 oh5
      have hmh5 : mM h5 s (mUp A 0 (eUp (eUp (A 0) (22 + p).toNat l) 3 (((G.2.2.1 1 + G.2.2.1 5)) + t))) := mM_0 hmh2 eh5 oh5 ⟨rfl, rfl, rfl, rfl, rfl, rfl, rfl, rfl⟩
      have frh5 : mFr h h5 := mFr_a frh2 (by decide) oh5
      refine eW_aload_n 128 rfl rfl rfl ?_
      refine eW_getfield 131 rfl rfl (Nat.ble_eq_true_of_le (by omega)) rfl hmh5.1 rfl ⟨rfl, fun _ h9 => nomatch h9⟩ ?_
      refine eW_bipush 133 rfl rfl 6 rfl ?_
      refine eW_dup2 134 rfl rfl rfl ?_
      refine eW_iaload 135 rfl rfl ((G.2.2.1 3 + G.2.2.1 7)) (Nat.ble_eq_true_of_le (by omega)) (show h5 64 = .inl (0, 62, .inl (eIA (eUp (eUp (A 0) (22 + p).toNat l) 3 (((G.2.2.1 1 + G.2.2.1 5)) + t)))) from hmh5.2.1) (by omega) (by omega) (by unfold i32; omega) (congrArg Int32.ofInt (Eq.trans (eUp_ne (by decide)) (Eq.trans (eUp_ne (by omega)) hr.2.2.2.2.2.2.1))) ?_
      refine eW_iconst 136 rfl rfl ?_
      refine eW_iadd 137 rfl rfl ?_
      refine eW_iastore 138 rfl rfl (Nat.ble_eq_true_of_le (by omega)) (show h5 64 = .inl (0, 62, .inl (eIA (eUp (eUp (A 0) (22 + p).toNat l) 3 (((G.2.2.1 1 + G.2.2.1 5)) + t)))) from hmh5.2.1) (by omega) (by omega) (by unfold i32; omega) rfl ?_
      intro h6 eh6 oh6
      have hmh6 : mM h6 s (mUp A 0 (eUp (eUp (eUp (A 0) (22 + p).toNat l) 3 (((G.2.2.1 1 + G.2.2.1 5)) + t)) 6 (((G.2.2.1 3 + G.2.2.1 7)) + 1))) := mM_0 hmh5 eh6 oh6 ⟨rfl, rfl, rfl, rfl, rfl, rfl, rfl, rfl⟩
      have frh6 : mFr h h6 := mFr_a frh5 (by decide) oh6
      refine eW_aload_n 139 rfl rfl rfl ?_
      refine eW_getfield 142 rfl rfl (Nat.ble_eq_true_of_le (by omega)) rfl hmh6.1 rfl ⟨rfl, fun _ h9 => nomatch h9⟩ ?_
      refine eW_bipush 144 rfl rfl 7 rfl ?_
      refine eW_aload_n 145 rfl rfl rfl ?_
      refine eW_getfield 148 rfl rfl (Nat.ble_eq_true_of_le (by omega)) rfl hmh6.1 rfl ⟨rfl, fun _ h9 => nomatch h9⟩ ?_
      refine eW_iconst 149 rfl rfl ?_
      refine eW_iaload 150 rfl rfl 0 (Nat.ble_eq_true_of_le (by omega)) (show h6 64 = .inl (0, 62, .inl (eIA (eUp (eUp (eUp (A 0) (22 + p).toNat l) 3 (((G.2.2.1 1 + G.2.2.1 5)) + t)) 6 (((G.2.2.1 3 + G.2.2.1 7)) + 1)))) from hmh6.2.1) (by omega) (by omega) (by unfold i32; omega) (congrArg Int32.ofInt (Eq.trans (eUp_ne (by decide)) (Eq.trans (eUp_ne (by decide)) (Eq.trans (eUp_ne (by omega)) (hr.2.1.trans ht0))))) ?_
      refine eW_iastore 151 rfl rfl (Nat.ble_eq_true_of_le (by omega)) (show h6 64 = .inl (0, 62, .inl (eIA (eUp (eUp (eUp (A 0) (22 + p).toNat l) 3 (((G.2.2.1 1 + G.2.2.1 5)) + t)) 6 (((G.2.2.1 3 + G.2.2.1 7)) + 1)))) from hmh6.2.1) (by omega) (by omega) (by unfold i32; omega) rfl ?_
      intro h7 eh7 oh7
      have hmh7 : mM h7 s (mUp A 0 (eUp (eUp (eUp (eUp (A 0) (22 + p).toNat l) 3 (((G.2.2.1 1 + G.2.2.1 5)) + t)) 6 (((G.2.2.1 3 + G.2.2.1 7)) + 1)) 7 0)) := mM_0 hmh6 eh7 oh7 ⟨rfl, rfl, rfl, rfl, rfl, rfl, rfl, rfl⟩
      have frh7 : mFr h h7 := mFr_a frh6 (by decide) oh7
      refine eW_aload_n 152 rfl rfl rfl ?_
      refine eW_getfield 155 rfl rfl (Nat.ble_eq_true_of_le (by omega)) rfl hmh7.1 rfl ⟨rfl, fun _ h9 => nomatch h9⟩ ?_
      refine eW_iload 157 rfl rfl rfl ?_
      refine eW_dup2 158 rfl rfl rfl ?_
      refine eW_iaload 159 rfl rfl (G.2.2.1 0) (Nat.ble_eq_true_of_le (by omega)) (show h7 64 = .inl (0, 62, .inl (eIA (eUp (eUp (eUp (eUp (A 0) (22 + p).toNat l) 3 (((G.2.2.1 1 + G.2.2.1 5)) + t)) 6 (((G.2.2.1 3 + G.2.2.1 7)) + 1)) 7 0))) from hmh7.2.1) (by omega) (by omega) (by unfold i32; omega) (congrArg Int32.ofInt (Eq.trans (eUp_ne (by decide)) (Eq.trans (eUp_ne (by decide)) (Eq.trans (eUp_ne (by decide)) (Eq.trans (eUp_ne (by omega)) (hr.2.2.2.2.2.2.2.2.2.1 0 (by decide))))))) ?_
      refine eW_iconst 160 rfl rfl ?_
      refine eW_iadd 161 rfl rfl ?_
      refine eW_iastore 162 rfl rfl (Nat.ble_eq_true_of_le (by omega)) (show h7 64 = .inl (0, 62, .inl (eIA (eUp (eUp (eUp (eUp (A 0) (22 + p).toNat l) 3 (((G.2.2.1 1 + G.2.2.1 5)) + t)) 6 (((G.2.2.1 3 + G.2.2.1 7)) + 1)) 7 0))) from hmh7.2.1) (by omega) (by omega) (by unfold i32; omega) rfl ?_
      intro h8 eh8 oh8
      have hmh8 : mM h8 s (mUp A 0 (eUp (eUp (eUp (eUp (eUp (A 0) (22 + p).toNat l) 3 (((G.2.2.1 1 + G.2.2.1 5)) + t)) 6 (((G.2.2.1 3 + G.2.2.1 7)) + 1)) 7 0) 14 ((G.2.2.1 0) + 1))) := mM_0 hmh7 eh8 oh8 ⟨rfl, rfl, rfl, rfl, rfl, rfl, rfl, rfl⟩
      have frh8 : mFr h h8 := mFr_a frh7 (by decide) oh8
      refine eW_aload_n 163 rfl rfl rfl ?_
      refine eW_getfield 166 rfl rfl (Nat.ble_eq_true_of_le (by omega)) rfl hmh8.1 rfl ⟨rfl, fun _ h9 => nomatch h9⟩ ?_
      refine eW_iload 168 rfl rfl rfl ?_
      refine eW_iconst 169 rfl rfl ?_
      refine eW_iadd 170 rfl rfl ?_
      refine eW_dup2 171 rfl rfl rfl ?_
      refine eW_iaload 172 rfl rfl (G.2.2.1 1) (Nat.ble_eq_true_of_le (by omega)) (show h8 64 = .inl (0, 62, .inl (eIA (eUp (eUp (eUp (eUp (eUp (A 0) (22 + p).toNat l) 3 (((G.2.2.1 1 + G.2.2.1 5)) + t)) 6 (((G.2.2.1 3 + G.2.2.1 7)) + 1)) 7 0) 14 ((G.2.2.1 0) + 1)))) from hmh8.2.1) (by omega) (by omega) (by unfold i32; omega) (congrArg Int32.ofInt (Eq.trans (eUp_ne (by decide)) (Eq.trans (eUp_ne (by decide)) (Eq.trans (eUp_ne (by decide)) (Eq.trans (eUp_ne (by decide)) (Eq.trans (eUp_ne (by omega)) (hr.2.2.2.2.2.2.2.2.2.1 1 (by decide)))))))) ?_
      refine eW_iload_n 173 rfl rfl rfl ?_
      refine eW_iadd 174 rfl rfl ?_
      refine eW_iastore 175 rfl rfl (Nat.ble_eq_true_of_le (by omega)) (show h8 64 = .inl (0, 62, .inl (eIA (eUp (eUp (eUp (eUp (eUp (A 0) (22 + p).toNat l) 3 (((G.2.2.1 1 + G.2.2.1 5)) + t)) 6 (((G.2.2.1 3 + G.2.2.1 7)) + 1)) 7 0) 14 ((G.2.2.1 0) + 1)))) from hmh8.2.1) (by omega) (by omega) (by unfold i32; omega) rfl ?_
      intro h9 eh9 oh9
      have hmh9 : mM h9 s (mUp A 0 (eUp (eUp (eUp (eUp (eUp (eUp (A 0) (22 + p).toNat l) 3 (((G.2.2.1 1 + G.2.2.1 5)) + t)) 6 (((G.2.2.1 3 + G.2.2.1 7)) + 1)) 7 0) 14 ((G.2.2.1 0) + 1)) 15 ((G.2.2.1 1) + t))) := mM_0 hmh8 eh9 oh9 ⟨rfl, rfl, rfl, rfl, rfl, rfl, rfl, rfl⟩
      have frh9 : mFr h h9 := mFr_a frh8 (by decide) oh9
      refine eW_aload_n 176 rfl rfl rfl ?_
      refine eW_getfield 179 rfl rfl (Nat.ble_eq_true_of_le (by omega)) rfl hmh9.1 rfl ⟨rfl, fun _ h9 => nomatch h9⟩ ?_
      refine eW_iload 181 rfl rfl rfl ?_
      refine eW_iconst 182 rfl rfl ?_
      refine eW_iadd 183 rfl rfl ?_
      refine eW_dup2 184 rfl rfl rfl ?_
      refine eW_iaload 185 rfl rfl (G.2.2.1 3) (Nat.ble_eq_true_of_le (by omega)) (show h9 64 = .inl (0, 62, .inl (eIA (eUp (eUp (eUp (eUp (eUp (eUp (A 0) (22 + p).toNat l) 3 (((G.2.2.1 1 + G.2.2.1 5)) + t)) 6 (((G.2.2.1 3 + G.2.2.1 7)) + 1)) 7 0) 14 ((G.2.2.1 0) + 1)) 15 ((G.2.2.1 1) + t)))) from hmh9.2.1) (by omega) (by omega) (by unfold i32; omega) (congrArg Int32.ofInt (Eq.trans (eUp_ne (by decide)) (Eq.trans (eUp_ne (by decide)) (Eq.trans (eUp_ne (by decide)) (Eq.trans (eUp_ne (by decide)) (Eq.trans (eUp_ne (by decide)) (Eq.trans (eUp_ne (by omega)) (hr.2.2.2.2.2.2.2.2.2.1 3 (by decide))))))))) ?_
      refine eW_iconst 186 rfl rfl ?_
      refine eW_iadd 187 rfl rfl ?_
      refine eW_iastore 188 rfl rfl (Nat.ble_eq_true_of_le (by omega)) (show h9 64 = .inl (0, 62, .inl (eIA (eUp (eUp (eUp (eUp (eUp (eUp (A 0) (22 + p).toNat l) 3 (((G.2.2.1 1 + G.2.2.1 5)) + t)) 6 (((G.2.2.1 3 + G.2.2.1 7)) + 1)) 7 0) 14 ((G.2.2.1 0) + 1)) 15 ((G.2.2.1 1) + t)))) from hmh9.2.1) (by omega) (by omega) (by unfold i32; omega) rfl ?_
      intro h10 eh10 oh10
      have hmh10 : mM h10 s (mUp A 0 (eUp (eUp (eUp (eUp (eUp (eUp (eUp (A 0) (22 + p).toNat l) 3 (((G.2.2.1 1 + G.2.2.1 5)) + t)) 6 (((G.2.2.1 3 + G.2.2.1 7)) + 1)) 7 0) 14 ((G.2.2.1 0) + 1)) 15 ((G.2.2.1 1) + t)) 17 ((G.2.2.1 3) + 1))) := mM_0 hmh9 eh10 oh10 ⟨rfl, rfl, rfl, rfl, rfl, rfl, rfl, rfl⟩
      have frh10 : mFr h h10 := mFr_a frh9 (by decide) oh10
      refine eW_aload_n 189 rfl rfl rfl ?_
      refine eW_getfield 192 rfl rfl (Nat.ble_eq_true_of_le (by omega)) rfl hmh10.1 rfl ⟨rfl, fun _ h9 => nomatch h9⟩ ?_
      refine eW_iconst 193 rfl rfl ?_
      refine eW_iconst 194 rfl rfl ?_
      refine eW_aload_n 195 rfl rfl rfl ?_
      refine eW_getfield 198 rfl rfl (Nat.ble_eq_true_of_le (by omega)) rfl hmh10.1 rfl ⟨rfl, fun _ h9 => nomatch h9⟩ ?_
      refine eW_iconst 199 rfl rfl ?_
      refine eW_iaload 200 rfl rfl 0 (Nat.ble_eq_true_of_le (by omega)) (show h10 64 = .inl (0, 62, .inl (eIA (eUp (eUp (eUp (eUp (eUp (eUp (eUp (A 0) (22 + p).toNat l) 3 (((G.2.2.1 1 + G.2.2.1 5)) + t)) 6 (((G.2.2.1 3 + G.2.2.1 7)) + 1)) 7 0) 14 ((G.2.2.1 0) + 1)) 15 ((G.2.2.1 1) + t)) 17 ((G.2.2.1 3) + 1)))) from hmh10.2.1) (by omega) (by omega) (by unfold i32; omega) (congrArg Int32.ofInt (Eq.trans (eUp_ne (by decide)) (Eq.trans (eUp_ne (by decide)) (Eq.trans (eUp_ne (by decide)) (Eq.trans (eUp_ne (by decide)) (Eq.trans (eUp_ne (by decide)) (Eq.trans (eUp_ne (by decide)) (Eq.trans (eUp_ne (by omega)) (hr.2.1.trans ht0))))))))) ?_
      refine eW_isub 201 rfl rfl ?_
      refine eW_iastore 202 rfl rfl (Nat.ble_eq_true_of_le (by omega)) (show h10 64 = .inl (0, 62, .inl (eIA (eUp (eUp (eUp (eUp (eUp (eUp (eUp (A 0) (22 + p).toNat l) 3 (((G.2.2.1 1 + G.2.2.1 5)) + t)) 6 (((G.2.2.1 3 + G.2.2.1 7)) + 1)) 7 0) 14 ((G.2.2.1 0) + 1)) 15 ((G.2.2.1 1) + t)) 17 ((G.2.2.1 3) + 1)))) from hmh10.2.1) (by omega) (by omega) (by unfold i32; omega) rfl ?_
      intro h11 eh11 oh11
      have hmh11 : mM h11 s (mUp A 0 (eUp (eUp (eUp (eUp (eUp (eUp (eUp (eUp (A 0) (22 + p).toNat l) 3 (((G.2.2.1 1 + G.2.2.1 5)) + t)) 6 (((G.2.2.1 3 + G.2.2.1 7)) + 1)) 7 0) 14 ((G.2.2.1 0) + 1)) 15 ((G.2.2.1 1) + t)) 17 ((G.2.2.1 3) + 1)) 1 (1 - 0))) := mM_0 hmh10 eh11 oh11 ⟨rfl, rfl, rfl, rfl, rfl, rfl, rfl, rfl⟩
      have frh11 : mFr h h11 := mFr_a frh10 (by decide) oh11
      refine eW_ret rfl rfl ?_
      refine ⟨_, rfl, _, ⟨hmh11, frh11⟩, ?_⟩
      have hM9 : gMake G (p, t, l) = (eUp G.1 p.toNat l, G.2.1, gTls G t, G.2.2.2.1, 1 - G.2.2.2.2.1, G.2.2.2.2.2) := by
        unfold gMake gCut
        dsimp only
        rw [decide_eq_false (by omega : ¬ 0 < G.1 p.toNat - t - l), decide_eq_false (by omega : ¬ l = 0)]
      have hw := gWin_c (gI_make hI hM)
      rw [hM9] at hw
      dsimp only at hw
      rw [hM9]
      refine ⟨(Eq.trans (eUp_ne (by decide)) (Eq.trans (eUp_ne (by decide)) (Eq.trans (eUp_ne (by decide)) (Eq.trans (eUp_ne (by decide)) (Eq.trans (eUp_ne (by decide)) (Eq.trans (eUp_ne (by decide)) (Eq.trans (eUp_ne (by decide)) (Eq.trans (eUp_ne (by omega)) hr.1)))))))), (by rw [ht0]; exact (eUp_eq rfl)), (Eq.trans (eUp_ne (by decide)) (Eq.trans (eUp_ne (by decide)) (Eq.trans (eUp_ne (by decide)) (Eq.trans (eUp_ne (by decide)) (Eq.trans (eUp_ne (by decide)) (Eq.trans (eUp_ne (by decide)) (Eq.trans (eUp_ne (by decide)) (Eq.trans (eUp_ne (by omega)) hr.2.2.1)))))))), (by have e9 : (eUp (eUp (eUp (eUp (eUp (eUp (eUp (eUp (A 0) (22 + p).toNat l) 3 (((G.2.2.1 1 + G.2.2.1 5)) + t)) 6 (((G.2.2.1 3 + G.2.2.1 7)) + 1)) 7 0) 14 ((G.2.2.1 0) + 1)) 15 ((G.2.2.1 1) + t)) 17 ((G.2.2.1 3) + 1)) 1 (1 - 0)) 3 = ((G.2.2.1 1 + G.2.2.1 5)) + t := (Eq.trans (eUp_ne (by decide)) (Eq.trans (eUp_ne (by decide)) (Eq.trans (eUp_ne (by decide)) (Eq.trans (eUp_ne (by decide)) (Eq.trans (eUp_ne (by decide)) (Eq.trans (eUp_ne (by decide)) (eUp_eq rfl))))))); exact e9.trans (show (((G.2.2.1 1 + G.2.2.1 5)) + t : Int) = gTls G t 1 + gTls G t 5 by first | rfl | omega)), (Eq.trans (eUp_ne (by decide)) (Eq.trans (eUp_ne (by decide)) (Eq.trans (eUp_ne (by decide)) (Eq.trans (eUp_ne (by decide)) (Eq.trans (eUp_ne (by decide)) (Eq.trans (eUp_ne (by decide)) (Eq.trans (eUp_ne (by decide)) (Eq.trans (eUp_ne (by omega)) hr.2.2.2.2.1)))))))), (Eq.trans (eUp_ne (by decide)) (Eq.trans (eUp_ne (by decide)) (Eq.trans (eUp_ne (by decide)) (Eq.trans (eUp_ne (by decide)) (Eq.trans (eUp_ne (by decide)) (Eq.trans (eUp_ne (by decide)) (Eq.trans (eUp_ne (by decide)) (Eq.trans (eUp_ne (by omega)) hr.2.2.2.2.2.1)))))))), (by have e9 : (eUp (eUp (eUp (eUp (eUp (eUp (eUp (eUp (A 0) (22 + p).toNat l) 3 (((G.2.2.1 1 + G.2.2.1 5)) + t)) 6 (((G.2.2.1 3 + G.2.2.1 7)) + 1)) 7 0) 14 ((G.2.2.1 0) + 1)) 15 ((G.2.2.1 1) + t)) 17 ((G.2.2.1 3) + 1)) 1 (1 - 0)) 6 = ((G.2.2.1 3 + G.2.2.1 7)) + 1 := (Eq.trans (eUp_ne (by decide)) (Eq.trans (eUp_ne (by decide)) (Eq.trans (eUp_ne (by decide)) (Eq.trans (eUp_ne (by decide)) (Eq.trans (eUp_ne (by decide)) (eUp_eq rfl)))))); exact e9.trans (show (((G.2.2.1 3 + G.2.2.1 7)) + 1 : Int) = gTls G t 3 + gTls G t 7 by first | rfl | omega)), (by have e9 : (eUp (eUp (eUp (eUp (eUp (eUp (eUp (eUp (A 0) (22 + p).toNat l) 3 (((G.2.2.1 1 + G.2.2.1 5)) + t)) 6 (((G.2.2.1 3 + G.2.2.1 7)) + 1)) 7 0) 14 ((G.2.2.1 0) + 1)) 15 ((G.2.2.1 1) + t)) 17 ((G.2.2.1 3) + 1)) 1 (1 - 0)) 7 = 0 := (Eq.trans (eUp_ne (by decide)) (Eq.trans (eUp_ne (by decide)) (Eq.trans (eUp_ne (by decide)) (Eq.trans (eUp_ne (by decide)) (eUp_eq rfl))))); exact e9.trans (show (0 : Int) = gWin (eUp G.1 p.toNat l, G.2.1, gTls G t, G.2.2.2.1, 1 - G.2.2.2.2.1, G.2.2.2.2.2) by first | rfl | omega)), eL6 (Eq.trans (eUp_ne (by decide)) (Eq.trans (eUp_ne (by decide)) (Eq.trans (eUp_ne (by decide)) (Eq.trans (eUp_ne (by decide)) (Eq.trans (eUp_ne (by decide)) (Eq.trans (eUp_ne (by decide)) (Eq.trans (eUp_ne (by decide)) (Eq.trans (eUp_ne (by omega)) (hr.2.2.2.2.2.2.2.2.1 0 (by decide)))))))))) (Eq.trans (eUp_ne (by decide)) (Eq.trans (eUp_ne (by decide)) (Eq.trans (eUp_ne (by decide)) (Eq.trans (eUp_ne (by decide)) (Eq.trans (eUp_ne (by decide)) (Eq.trans (eUp_ne (by decide)) (Eq.trans (eUp_ne (by decide)) (Eq.trans (eUp_ne (by omega)) (hr.2.2.2.2.2.2.2.2.1 1 (by decide)))))))))) (Eq.trans (eUp_ne (by decide)) (Eq.trans (eUp_ne (by decide)) (Eq.trans (eUp_ne (by decide)) (Eq.trans (eUp_ne (by decide)) (Eq.trans (eUp_ne (by decide)) (Eq.trans (eUp_ne (by decide)) (Eq.trans (eUp_ne (by decide)) (Eq.trans (eUp_ne (by omega)) (hr.2.2.2.2.2.2.2.2.1 2 (by decide)))))))))) (Eq.trans (eUp_ne (by decide)) (Eq.trans (eUp_ne (by decide)) (Eq.trans (eUp_ne (by decide)) (Eq.trans (eUp_ne (by decide)) (Eq.trans (eUp_ne (by decide)) (Eq.trans (eUp_ne (by decide)) (Eq.trans (eUp_ne (by decide)) (Eq.trans (eUp_ne (by omega)) (hr.2.2.2.2.2.2.2.2.1 3 (by decide)))))))))) (Eq.trans (eUp_ne (by decide)) (Eq.trans (eUp_ne (by decide)) (Eq.trans (eUp_ne (by decide)) (Eq.trans (eUp_ne (by decide)) (Eq.trans (eUp_ne (by decide)) (Eq.trans (eUp_ne (by decide)) (Eq.trans (eUp_ne (by decide)) (Eq.trans (eUp_ne (by omega)) (hr.2.2.2.2.2.2.2.2.1 4 (by decide)))))))))) (Eq.trans (eUp_ne (by decide)) (Eq.trans (eUp_ne (by decide)) (Eq.trans (eUp_ne (by decide)) (Eq.trans (eUp_ne (by decide)) (Eq.trans (eUp_ne (by decide)) (Eq.trans (eUp_ne (by decide)) (Eq.trans (eUp_ne (by decide)) (Eq.trans (eUp_ne (by omega)) (hr.2.2.2.2.2.2.2.2.1 5 (by decide)))))))))), eL8 (by have e9 : (eUp (eUp (eUp (eUp (eUp (eUp (eUp (eUp (A 0) (22 + p).toNat l) 3 (((G.2.2.1 1 + G.2.2.1 5)) + t)) 6 (((G.2.2.1 3 + G.2.2.1 7)) + 1)) 7 0) 14 ((G.2.2.1 0) + 1)) 15 ((G.2.2.1 1) + t)) 17 ((G.2.2.1 3) + 1)) 1 (1 - 0)) 14 = (G.2.2.1 0) + 1 := (Eq.trans (eUp_ne (by decide)) (Eq.trans (eUp_ne (by decide)) (Eq.trans (eUp_ne (by decide)) (eUp_eq rfl)))); exact e9.trans (show ((G.2.2.1 0) + 1 : Int) = gTls G t 0 by first | rfl | omega)) (by have e9 : (eUp (eUp (eUp (eUp (eUp (eUp (eUp (eUp (A 0) (22 + p).toNat l) 3 (((G.2.2.1 1 + G.2.2.1 5)) + t)) 6 (((G.2.2.1 3 + G.2.2.1 7)) + 1)) 7 0) 14 ((G.2.2.1 0) + 1)) 15 ((G.2.2.1 1) + t)) 17 ((G.2.2.1 3) + 1)) 1 (1 - 0)) 15 = (G.2.2.1 1) + t := (Eq.trans (eUp_ne (by decide)) (Eq.trans (eUp_ne (by decide)) (eUp_eq rfl))); exact e9.trans (show ((G.2.2.1 1) + t : Int) = gTls G t 1 by first | rfl | omega)) (by have e9 : (eUp (eUp (eUp (eUp (eUp (eUp (eUp (eUp (A 0) (22 + p).toNat l) 3 (((G.2.2.1 1 + G.2.2.1 5)) + t)) 6 (((G.2.2.1 3 + G.2.2.1 7)) + 1)) 7 0) 14 ((G.2.2.1 0) + 1)) 15 ((G.2.2.1 1) + t)) 17 ((G.2.2.1 3) + 1)) 1 (1 - 0)) 16 = G.2.2.1 2 := (Eq.trans (eUp_ne (by decide)) (Eq.trans (eUp_ne (by decide)) (Eq.trans (eUp_ne (by decide)) (Eq.trans (eUp_ne (by decide)) (Eq.trans (eUp_ne (by decide)) (Eq.trans (eUp_ne (by decide)) (Eq.trans (eUp_ne (by decide)) (Eq.trans (eUp_ne (by omega)) (hr.2.2.2.2.2.2.2.2.2.1 2 (by decide)))))))))); exact e9.trans (show (G.2.2.1 2 : Int) = gTls G t 2 by first | rfl | omega)) (by have e9 : (eUp (eUp (eUp (eUp (eUp (eUp (eUp (eUp (A 0) (22 + p).toNat l) 3 (((G.2.2.1 1 + G.2.2.1 5)) + t)) 6 (((G.2.2.1 3 + G.2.2.1 7)) + 1)) 7 0) 14 ((G.2.2.1 0) + 1)) 15 ((G.2.2.1 1) + t)) 17 ((G.2.2.1 3) + 1)) 1 (1 - 0)) 17 = (G.2.2.1 3) + 1 := (Eq.trans (eUp_ne (by decide)) (eUp_eq rfl)); exact e9.trans (show ((G.2.2.1 3) + 1 : Int) = gTls G t 3 by first | rfl | omega)) (by have e9 : (eUp (eUp (eUp (eUp (eUp (eUp (eUp (eUp (A 0) (22 + p).toNat l) 3 (((G.2.2.1 1 + G.2.2.1 5)) + t)) 6 (((G.2.2.1 3 + G.2.2.1 7)) + 1)) 7 0) 14 ((G.2.2.1 0) + 1)) 15 ((G.2.2.1 1) + t)) 17 ((G.2.2.1 3) + 1)) 1 (1 - 0)) 18 = G.2.2.1 4 := (Eq.trans (eUp_ne (by decide)) (Eq.trans (eUp_ne (by decide)) (Eq.trans (eUp_ne (by decide)) (Eq.trans (eUp_ne (by decide)) (Eq.trans (eUp_ne (by decide)) (Eq.trans (eUp_ne (by decide)) (Eq.trans (eUp_ne (by decide)) (Eq.trans (eUp_ne (by omega)) (hr.2.2.2.2.2.2.2.2.2.1 4 (by decide)))))))))); exact e9.trans (show (G.2.2.1 4 : Int) = gTls G t 4 by first | rfl | omega)) (by have e9 : (eUp (eUp (eUp (eUp (eUp (eUp (eUp (eUp (A 0) (22 + p).toNat l) 3 (((G.2.2.1 1 + G.2.2.1 5)) + t)) 6 (((G.2.2.1 3 + G.2.2.1 7)) + 1)) 7 0) 14 ((G.2.2.1 0) + 1)) 15 ((G.2.2.1 1) + t)) 17 ((G.2.2.1 3) + 1)) 1 (1 - 0)) 19 = G.2.2.1 5 := (Eq.trans (eUp_ne (by decide)) (Eq.trans (eUp_ne (by decide)) (Eq.trans (eUp_ne (by decide)) (Eq.trans (eUp_ne (by decide)) (Eq.trans (eUp_ne (by decide)) (Eq.trans (eUp_ne (by decide)) (Eq.trans (eUp_ne (by decide)) (Eq.trans (eUp_ne (by omega)) (hr.2.2.2.2.2.2.2.2.2.1 5 (by decide)))))))))); exact e9.trans (show (G.2.2.1 5 : Int) = gTls G t 5 by first | rfl | omega)) (by have e9 : (eUp (eUp (eUp (eUp (eUp (eUp (eUp (eUp (A 0) (22 + p).toNat l) 3 (((G.2.2.1 1 + G.2.2.1 5)) + t)) 6 (((G.2.2.1 3 + G.2.2.1 7)) + 1)) 7 0) 14 ((G.2.2.1 0) + 1)) 15 ((G.2.2.1 1) + t)) 17 ((G.2.2.1 3) + 1)) 1 (1 - 0)) 20 = G.2.2.1 6 := (Eq.trans (eUp_ne (by decide)) (Eq.trans (eUp_ne (by decide)) (Eq.trans (eUp_ne (by decide)) (Eq.trans (eUp_ne (by decide)) (Eq.trans (eUp_ne (by decide)) (Eq.trans (eUp_ne (by decide)) (Eq.trans (eUp_ne (by decide)) (Eq.trans (eUp_ne (by omega)) (hr.2.2.2.2.2.2.2.2.2.1 6 (by decide)))))))))); exact e9.trans (show (G.2.2.1 6 : Int) = gTls G t 6 by first | rfl | omega)) (by have e9 : (eUp (eUp (eUp (eUp (eUp (eUp (eUp (eUp (A 0) (22 + p).toNat l) 3 (((G.2.2.1 1 + G.2.2.1 5)) + t)) 6 (((G.2.2.1 3 + G.2.2.1 7)) + 1)) 7 0) 14 ((G.2.2.1 0) + 1)) 15 ((G.2.2.1 1) + t)) 17 ((G.2.2.1 3) + 1)) 1 (1 - 0)) 21 = G.2.2.1 7 := (Eq.trans (eUp_ne (by decide)) (Eq.trans (eUp_ne (by decide)) (Eq.trans (eUp_ne (by decide)) (Eq.trans (eUp_ne (by decide)) (Eq.trans (eUp_ne (by decide)) (Eq.trans (eUp_ne (by decide)) (Eq.trans (eUp_ne (by decide)) (Eq.trans (eUp_ne (by omega)) (hr.2.2.2.2.2.2.2.2.2.1 7 (by decide)))))))))); exact e9.trans (show (G.2.2.1 7 : Int) = gTls G t 7 by first | rfl | omega)), fun i hi => ?_⟩
      have hi : (i : Int) < G.2.2.2.1 := hi
      refine Eq.trans (eUp_ne (by omega)) ?_
      refine Eq.trans (eUp_ne (by omega)) ?_
      refine Eq.trans (eUp_ne (by omega)) ?_
      refine Eq.trans (eUp_ne (by omega)) ?_
      refine Eq.trans (eUp_ne (by omega)) ?_
      refine Eq.trans (eUp_ne (by omega)) ?_
      refine Eq.trans (eUp_ne (by omega)) ?_
      exact (eUp_sh (by omega) i).trans (eUp_cg (hr.2.2.2.2.2.2.2.2.2.2 i (by omega)))
    · refine eW_aload_n 51 rfl rfl rfl ?_
      refine eW_getfield 54 rfl rfl (Nat.ble_eq_true_of_le (by omega)) rfl hmh2.1 rfl ⟨rfl, fun _ h9 => nomatch h9⟩ ?_
      refine eW_iconst 55 rfl rfl ?_
      refine eW_dup2 56 rfl rfl rfl ?_
      refine eW_iaload 57 rfl rfl G.2.2.2.1 (Nat.ble_eq_true_of_le (by omega)) (show h2 64 = .inl (0, 62, .inl (eIA (eUp (A 0) (22 + p).toNat l))) from hmh2.2.1) (by omega) (by omega) (by unfold i32; omega) (congrArg Int32.ofInt (Eq.trans (eUp_ne (by omega)) hr.1)) ?_
      refine eW_iconst 58 rfl rfl ?_
      refine eW_isub 59 rfl rfl ?_
      refine eW_iastore 60 rfl rfl (Nat.ble_eq_true_of_le (by omega)) (show h2 64 = .inl (0, 62, .inl (eIA (eUp (A 0) (22 + p).toNat l))) from hmh2.2.1) (by omega) (by omega) (by unfold i32; omega) rfl ?_
      intro h12 eh12 oh12
      have hmh12 : mM h12 s (mUp A 0 (eUp (eUp (A 0) (22 + p).toNat l) 0 (G.2.2.2.1 - 1))) := mM_0 hmh2 eh12 oh12 ⟨rfl, rfl, rfl, rfl, rfl, rfl, rfl, rfl⟩
      have frh12 : mFr h h12 := mFr_a frh2 (by decide) oh12
      refine eW_iload_n 61 rfl rfl rfl ?_
      refine eW_istore 63 rfl rfl [(6, vI p), (5, vI (((G.1 p.toNat) - t) - l)), (4, vI (14 + (4 * 0))), (0, .ref 63), (1, vI p), (2, vI t), (3, vI l)] rfl rfl ?_
      refine eW_re [(0, .ref 63), (1, vI p), (2, vI t), (3, vI l), (4, vI (14 + (4 * 0))), (5, vI (((G.1 p.toNat) - t) - l)), (6, vI p)] rfl rfl (List.forall_mem_cons.mpr ⟨rfl, List.forall_mem_cons.mpr ⟨rfl, List.forall_mem_cons.mpr ⟨rfl, List.forall_mem_cons.mpr ⟨rfl, List.forall_mem_cons.mpr ⟨rfl, List.forall_mem_cons.mpr ⟨rfl, List.forall_mem_cons.mpr ⟨rfl, fun _ h => absurd h List.not_mem_nil⟩⟩⟩⟩⟩⟩⟩) (List.forall_mem_cons.mpr ⟨Or.inl rfl, List.forall_mem_cons.mpr ⟨Or.inl rfl, List.forall_mem_cons.mpr ⟨Or.inl rfl, List.forall_mem_cons.mpr ⟨Or.inl rfl, List.forall_mem_cons.mpr ⟨Or.inl rfl, List.forall_mem_cons.mpr ⟨Or.inl rfl, List.forall_mem_cons.mpr ⟨Or.inl rfl, fun _ h => absurd h List.not_mem_nil⟩⟩⟩⟩⟩⟩⟩) ?_
      have hg0 : (eUp (eUp (A 0) (22 + p).toNat l) 0 (G.2.2.2.1 - 1)) 0 = G.2.2.2.1 - 1 := (eUp_eq rfl)
      refine m_takes_l (h0 := h) (g1 := eUp (eUp (A 0) (22 + p).toNat l) 0 (G.2.2.2.1 - 1)) (n := G.2.2.2.1 - 1) hN (by omega) (by omega) hg0 _ p (eUp (eUp (A 0) (22 + p).toNat l) 0 (G.2.2.2.1 - 1)) h12 (Int.self_le_toNat _) (by omega) hmh12 frh12 (fun _ _ => rfl) (fun i hi => ?_) (fun g2 h13 r1 r2 fj fm => ?_)
      · rw [gDel_0 _ (by omega)]
      refine eW_aload_n 103 rfl rfl rfl ?_
      refine eW_getfield 106 rfl rfl (Nat.ble_eq_true_of_le (by omega)) rfl r1.1 rfl ⟨rfl, fun _ h9 => nomatch h9⟩ ?_
      refine eW_bipush 108 rfl rfl 22 rfl ?_
      refine eW_aload_n 109 rfl rfl rfl ?_
      refine eW_getfield 112 rfl rfl (Nat.ble_eq_true_of_le (by omega)) rfl r1.1 rfl ⟨rfl, fun _ h9 => nomatch h9⟩ ?_
      refine eW_iconst 113 rfl rfl ?_
      refine eW_iaload 114 rfl rfl (G.2.2.2.1 - 1) (Nat.ble_eq_true_of_le (by omega)) (show h13 64 = .inl (0, 62, .inl (eIA g2)) from r1.2.1) (by omega) (by omega) (by unfold i32; omega) (congrArg Int32.ofInt (Eq.trans (fj 0 (by decide)) hg0)) ?_
      refine eW_iadd 115 rfl rfl ?_
      refine eW_iconst 116 rfl rfl ?_
      refine eW_iastore 117 rfl rfl (Nat.ble_eq_true_of_le (by omega)) (show h13 64 = .inl (0, 62, .inl (eIA g2)) from r1.2.1) (by omega) (by omega) (by unfold i32; omega) rfl ?_
      intro h14 eh14 oh14
      have hmh14 : mM h14 s (mUp A 0 (eUp g2 (22 + (G.2.2.2.1 - 1)).toNat 0)) := mM_0 r1 eh14 oh14 ⟨rfl, rfl, rfl, rfl, rfl, rfl, rfl, rfl⟩
      have frh14 : mFr h h14 := mFr_a r2 (by decide) oh14
      refine eW_aload_n 118 rfl rfl rfl ?_
      refine eW_getfield 121 rfl rfl (Nat.ble_eq_true_of_le (by omega)) rfl hmh14.1 rfl ⟨rfl, fun _ h9 => nomatch h9⟩ ?_
      refine eW_iconst 122 rfl rfl ?_
      refine eW_dup2 123 rfl rfl rfl ?_
      refine eW_iaload 124 rfl rfl ((G.2.2.1 1 + G.2.2.1 5)) (Nat.ble_eq_true_of_le (by omega)) (show h14 64 = .inl (0, 62, .inl (eIA (eUp g2 (22 + (G.2.2.2.1 - 1)).toNat 0))) from hmh14.2.1) (by omega) (by omega) (by unfold i32; omega) (congrArg Int32.ofInt (Eq.trans (eUp_ne (by omega)) (Eq.trans (fj 3 (by decide)) (Eq.trans (eUp_ne (by decide)) (Eq.trans (eUp_ne (by omega)) hr.2.2.2.1))))) ?_
      refine eW_iload_n 125 rfl rfl rfl ?_
      refine eW_iadd 126 rfl rfl ?_
      refine eW_iastore 127 rfl rfl (Nat.ble_eq_true_of_le (by omega)) (show h14 64 = .inl (0, 62, .inl (eIA (eUp g2 (22 + (G.2.2.2.1 - 1)).toNat 0))) from hmh14.2.1) (by omega) (by omega) (by unfold i32; omega) rfl ?_
      intro h15 eh15 oh15
      have hmh15 : mM h15 s (mUp A 0 (eUp (eUp g2 (22 + (G.2.2.2.1 - 1)).toNat 0) 3 (((G.2.2.1 1 + G.2.2.1 5)) + t))) := mM_0 hmh14 eh15 oh15 ⟨rfl, rfl, rfl, rfl, rfl, rfl, rfl, rfl⟩
      have frh15 : mFr h h15 := mFr_a frh14 (by decide) oh15
      refine eW_aload_n 128 rfl rfl rfl ?_
      refine eW_getfield 131 rfl rfl (Nat.ble_eq_true_of_le (by omega)) rfl hmh15.1 rfl ⟨rfl, fun _ h9 => nomatch h9⟩ ?_
      refine eW_bipush 133 rfl rfl 6 rfl ?_
      refine eW_dup2 134 rfl rfl rfl ?_
      refine eW_iaload 135 rfl rfl ((G.2.2.1 3 + G.2.2.1 7)) (Nat.ble_eq_true_of_le (by omega)) (show h15 64 = .inl (0, 62, .inl (eIA (eUp (eUp g2 (22 + (G.2.2.2.1 - 1)).toNat 0) 3 (((G.2.2.1 1 + G.2.2.1 5)) + t)))) from hmh15.2.1) (by omega) (by omega) (by unfold i32; omega) (congrArg Int32.ofInt (Eq.trans (eUp_ne (by decide)) (Eq.trans (eUp_ne (by omega)) (Eq.trans (fj 6 (by decide)) (Eq.trans (eUp_ne (by decide)) (Eq.trans (eUp_ne (by omega)) hr.2.2.2.2.2.2.1)))))) ?_
      refine eW_iconst 136 rfl rfl ?_
      refine eW_iadd 137 rfl rfl ?_
      refine eW_iastore 138 rfl rfl (Nat.ble_eq_true_of_le (by omega)) (show h15 64 = .inl (0, 62, .inl (eIA (eUp (eUp g2 (22 + (G.2.2.2.1 - 1)).toNat 0) 3 (((G.2.2.1 1 + G.2.2.1 5)) + t)))) from hmh15.2.1) (by omega) (by omega) (by unfold i32; omega) rfl ?_
      intro h16 eh16 oh16
      have hmh16 : mM h16 s (mUp A 0 (eUp (eUp (eUp g2 (22 + (G.2.2.2.1 - 1)).toNat 0) 3 (((G.2.2.1 1 + G.2.2.1 5)) + t)) 6 (((G.2.2.1 3 + G.2.2.1 7)) + 1))) := mM_0 hmh15 eh16 oh16 ⟨rfl, rfl, rfl, rfl, rfl, rfl, rfl, rfl⟩
      have frh16 : mFr h h16 := mFr_a frh15 (by decide) oh16
      refine eW_aload_n 139 rfl rfl rfl ?_
      refine eW_getfield 142 rfl rfl (Nat.ble_eq_true_of_le (by omega)) rfl hmh16.1 rfl ⟨rfl, fun _ h9 => nomatch h9⟩ ?_
      refine eW_bipush 144 rfl rfl 7 rfl ?_
      refine eW_aload_n 145 rfl rfl rfl ?_
      refine eW_getfield 148 rfl rfl (Nat.ble_eq_true_of_le (by omega)) rfl hmh16.1 rfl ⟨rfl, fun _ h9 => nomatch h9⟩ ?_
      refine eW_iconst 149 rfl rfl ?_
      refine eW_iaload 150 rfl rfl 0 (Nat.ble_eq_true_of_le (by omega)) (show h16 64 = .inl (0, 62, .inl (eIA (eUp (eUp (eUp g2 (22 + (G.2.2.2.1 - 1)).toNat 0) 3 (((G.2.2.1 1 + G.2.2.1 5)) + t)) 6 (((G.2.2.1 3 + G.2.2.1 7)) + 1)))) from hmh16.2.1) (by omega) (by omega) (by unfold i32; omega) (congrArg Int32.ofInt (Eq.trans (eUp_ne (by decide)) (Eq.trans (eUp_ne (by decide)) (Eq.trans (eUp_ne (by omega)) (Eq.trans (fj 1 (by decide)) (Eq.trans (eUp_ne (by decide)) (Eq.trans (eUp_ne (by omega)) (hr.2.1.trans ht0)))))))) ?_
      refine eW_iastore 151 rfl rfl (Nat.ble_eq_true_of_le (by omega)) (show h16 64 = .inl (0, 62, .inl (eIA (eUp (eUp (eUp g2 (22 + (G.2.2.2.1 - 1)).toNat 0) 3 (((G.2.2.1 1 + G.2.2.1 5)) + t)) 6 (((G.2.2.1 3 + G.2.2.1 7)) + 1)))) from hmh16.2.1) (by omega) (by omega) (by unfold i32; omega) rfl ?_
      intro h17 eh17 oh17
      have hmh17 : mM h17 s (mUp A 0 (eUp (eUp (eUp (eUp g2 (22 + (G.2.2.2.1 - 1)).toNat 0) 3 (((G.2.2.1 1 + G.2.2.1 5)) + t)) 6 (((G.2.2.1 3 + G.2.2.1 7)) + 1)) 7 0)) := mM_0 hmh16 eh17 oh17 ⟨rfl, rfl, rfl, rfl, rfl, rfl, rfl, rfl⟩
      have frh17 : mFr h h17 := mFr_a frh16 (by decide) oh17
      refine eW_aload_n 152 rfl rfl rfl ?_
      refine eW_getfield 155 rfl rfl (Nat.ble_eq_true_of_le (by omega)) rfl hmh17.1 rfl ⟨rfl, fun _ h9 => nomatch h9⟩ ?_
      refine eW_iload 157 rfl rfl rfl ?_
      refine eW_dup2 158 rfl rfl rfl ?_
      refine eW_iaload 159 rfl rfl (G.2.2.1 0) (Nat.ble_eq_true_of_le (by omega)) (show h17 64 = .inl (0, 62, .inl (eIA (eUp (eUp (eUp (eUp g2 (22 + (G.2.2.2.1 - 1)).toNat 0) 3 (((G.2.2.1 1 + G.2.2.1 5)) + t)) 6 (((G.2.2.1 3 + G.2.2.1 7)) + 1)) 7 0))) from hmh17.2.1) (by omega) (by omega) (by unfold i32; omega) (congrArg Int32.ofInt (Eq.trans (eUp_ne (by decide)) (Eq.trans (eUp_ne (by decide)) (Eq.trans (eUp_ne (by decide)) (Eq.trans (eUp_ne (by omega)) (Eq.trans (fj 14 (by decide)) (Eq.trans (eUp_ne (by decide)) (Eq.trans (eUp_ne (by omega)) (hr.2.2.2.2.2.2.2.2.2.1 0 (by decide)))))))))) ?_
      refine eW_iconst 160 rfl rfl ?_
      refine eW_iadd 161 rfl rfl ?_
      refine eW_iastore 162 rfl rfl (Nat.ble_eq_true_of_le (by omega)) (show h17 64 = .inl (0, 62, .inl (eIA (eUp (eUp (eUp (eUp g2 (22 + (G.2.2.2.1 - 1)).toNat 0) 3 (((G.2.2.1 1 + G.2.2.1 5)) + t)) 6 (((G.2.2.1 3 + G.2.2.1 7)) + 1)) 7 0))) from hmh17.2.1) (by omega) (by omega) (by unfold i32; omega) rfl ?_
      intro h18 eh18 oh18
      have hmh18 : mM h18 s (mUp A 0 (eUp (eUp (eUp (eUp (eUp g2 (22 + (G.2.2.2.1 - 1)).toNat 0) 3 (((G.2.2.1 1 + G.2.2.1 5)) + t)) 6 (((G.2.2.1 3 + G.2.2.1 7)) + 1)) 7 0) 14 ((G.2.2.1 0) + 1))) := mM_0 hmh17 eh18 oh18 ⟨rfl, rfl, rfl, rfl, rfl, rfl, rfl, rfl⟩
      have frh18 : mFr h h18 := mFr_a frh17 (by decide) oh18
      refine eW_aload_n 163 rfl rfl rfl ?_
      refine eW_getfield 166 rfl rfl (Nat.ble_eq_true_of_le (by omega)) rfl hmh18.1 rfl ⟨rfl, fun _ h9 => nomatch h9⟩ ?_
      refine eW_iload 168 rfl rfl rfl ?_
      refine eW_iconst 169 rfl rfl ?_
      refine eW_iadd 170 rfl rfl ?_
      refine eW_dup2 171 rfl rfl rfl ?_
      refine eW_iaload 172 rfl rfl (G.2.2.1 1) (Nat.ble_eq_true_of_le (by omega)) (show h18 64 = .inl (0, 62, .inl (eIA (eUp (eUp (eUp (eUp (eUp g2 (22 + (G.2.2.2.1 - 1)).toNat 0) 3 (((G.2.2.1 1 + G.2.2.1 5)) + t)) 6 (((G.2.2.1 3 + G.2.2.1 7)) + 1)) 7 0) 14 ((G.2.2.1 0) + 1)))) from hmh18.2.1) (by omega) (by omega) (by unfold i32; omega) (congrArg Int32.ofInt (Eq.trans (eUp_ne (by decide)) (Eq.trans (eUp_ne (by decide)) (Eq.trans (eUp_ne (by decide)) (Eq.trans (eUp_ne (by decide)) (Eq.trans (eUp_ne (by omega)) (Eq.trans (fj 15 (by decide)) (Eq.trans (eUp_ne (by decide)) (Eq.trans (eUp_ne (by omega)) (hr.2.2.2.2.2.2.2.2.2.1 1 (by decide))))))))))) ?_
      refine eW_iload_n 173 rfl rfl rfl ?_
      refine eW_iadd 174 rfl rfl ?_
      refine eW_iastore 175 rfl rfl (Nat.ble_eq_true_of_le (by omega)) (show h18 64 = .inl (0, 62, .inl (eIA (eUp (eUp (eUp (eUp (eUp g2 (22 + (G.2.2.2.1 - 1)).toNat 0) 3 (((G.2.2.1 1 + G.2.2.1 5)) + t)) 6 (((G.2.2.1 3 + G.2.2.1 7)) + 1)) 7 0) 14 ((G.2.2.1 0) + 1)))) from hmh18.2.1) (by omega) (by omega) (by unfold i32; omega) rfl ?_
      intro h19 eh19 oh19
      have hmh19 : mM h19 s (mUp A 0 (eUp (eUp (eUp (eUp (eUp (eUp g2 (22 + (G.2.2.2.1 - 1)).toNat 0) 3 (((G.2.2.1 1 + G.2.2.1 5)) + t)) 6 (((G.2.2.1 3 + G.2.2.1 7)) + 1)) 7 0) 14 ((G.2.2.1 0) + 1)) 15 ((G.2.2.1 1) + t))) := mM_0 hmh18 eh19 oh19 ⟨rfl, rfl, rfl, rfl, rfl, rfl, rfl, rfl⟩
      have frh19 : mFr h h19 := mFr_a frh18 (by decide) oh19
      refine eW_aload_n 176 rfl rfl rfl ?_
      refine eW_getfield 179 rfl rfl (Nat.ble_eq_true_of_le (by omega)) rfl hmh19.1 rfl ⟨rfl, fun _ h9 => nomatch h9⟩ ?_
      refine eW_iload 181 rfl rfl rfl ?_
      refine eW_iconst 182 rfl rfl ?_
      refine eW_iadd 183 rfl rfl ?_
      refine eW_dup2 184 rfl rfl rfl ?_
      refine eW_iaload 185 rfl rfl (G.2.2.1 3) (Nat.ble_eq_true_of_le (by omega)) (show h19 64 = .inl (0, 62, .inl (eIA (eUp (eUp (eUp (eUp (eUp (eUp g2 (22 + (G.2.2.2.1 - 1)).toNat 0) 3 (((G.2.2.1 1 + G.2.2.1 5)) + t)) 6 (((G.2.2.1 3 + G.2.2.1 7)) + 1)) 7 0) 14 ((G.2.2.1 0) + 1)) 15 ((G.2.2.1 1) + t)))) from hmh19.2.1) (by omega) (by omega) (by unfold i32; omega) (congrArg Int32.ofInt (Eq.trans (eUp_ne (by decide)) (Eq.trans (eUp_ne (by decide)) (Eq.trans (eUp_ne (by decide)) (Eq.trans (eUp_ne (by decide)) (Eq.trans (eUp_ne (by decide)) (Eq.trans (eUp_ne (by omega)) (Eq.trans (fj 17 (by decide)) (Eq.trans (eUp_ne (by decide)) (Eq.trans (eUp_ne (by omega)) (hr.2.2.2.2.2.2.2.2.2.1 3 (by decide)))))))))))) ?_
      refine eW_iconst 186 rfl rfl ?_
      refine eW_iadd 187 rfl rfl ?_
      refine eW_iastore 188 rfl rfl (Nat.ble_eq_true_of_le (by omega)) (show h19 64 = .inl (0, 62, .inl (eIA (eUp (eUp (eUp (eUp (eUp (eUp g2 (22 + (G.2.2.2.1 - 1)).toNat 0) 3 (((G.2.2.1 1 + G.2.2.1 5)) + t)) 6 (((G.2.2.1 3 + G.2.2.1 7)) + 1)) 7 0) 14 ((G.2.2.1 0) + 1)) 15 ((G.2.2.1 1) + t)))) from hmh19.2.1) (by omega) (by omega) (by unfold i32; omega) rfl ?_
      intro h20 eh20 oh20
      have hmh20 : mM h20 s (mUp A 0 (eUp (eUp (eUp (eUp (eUp (eUp (eUp g2 (22 + (G.2.2.2.1 - 1)).toNat 0) 3 (((G.2.2.1 1 + G.2.2.1 5)) + t)) 6 (((G.2.2.1 3 + G.2.2.1 7)) + 1)) 7 0) 14 ((G.2.2.1 0) + 1)) 15 ((G.2.2.1 1) + t)) 17 ((G.2.2.1 3) + 1))) := mM_0 hmh19 eh20 oh20 ⟨rfl, rfl, rfl, rfl, rfl, rfl, rfl, rfl⟩
      have frh20 : mFr h h20 := mFr_a frh19 (by decide) oh20
      refine eW_aload_n 189 rfl rfl rfl ?_
      refine eW_getfield 192 rfl rfl (Nat.ble_eq_true_of_le (by omega)) rfl hmh20.1 rfl ⟨rfl, fun _ h9 => nomatch h9⟩ ?_
      refine eW_iconst 193 rfl rfl ?_
      refine eW_iconst 194 rfl rfl ?_
      refine eW_aload_n 195 rfl rfl rfl ?_
      refine eW_getfield 198 rfl rfl (Nat.ble_eq_true_of_le (by omega)) rfl hmh20.1 rfl ⟨rfl, fun _ h9 => nomatch h9⟩ ?_
      refine eW_iconst 199 rfl rfl ?_
      refine eW_iaload 200 rfl rfl 0 (Nat.ble_eq_true_of_le (by omega)) (show h20 64 = .inl (0, 62, .inl (eIA (eUp (eUp (eUp (eUp (eUp (eUp (eUp g2 (22 + (G.2.2.2.1 - 1)).toNat 0) 3 (((G.2.2.1 1 + G.2.2.1 5)) + t)) 6 (((G.2.2.1 3 + G.2.2.1 7)) + 1)) 7 0) 14 ((G.2.2.1 0) + 1)) 15 ((G.2.2.1 1) + t)) 17 ((G.2.2.1 3) + 1)))) from hmh20.2.1) (by omega) (by omega) (by unfold i32; omega) (congrArg Int32.ofInt (Eq.trans (eUp_ne (by decide)) (Eq.trans (eUp_ne (by decide)) (Eq.trans (eUp_ne (by decide)) (Eq.trans (eUp_ne (by decide)) (Eq.trans (eUp_ne (by decide)) (Eq.trans (eUp_ne (by decide)) (Eq.trans (eUp_ne (by omega)) (Eq.trans (fj 1 (by decide)) (Eq.trans (eUp_ne (by decide)) (Eq.trans (eUp_ne (by omega)) (hr.2.1.trans ht0)))))))))))) ?_
      refine eW_isub 201 rfl rfl ?_
      refine eW_iastore 202 rfl rfl (Nat.ble_eq_true_of_le (by omega)) (show h20 64 = .inl (0, 62, .inl (eIA (eUp (eUp (eUp (eUp (eUp (eUp (eUp g2 (22 + (G.2.2.2.1 - 1)).toNat 0) 3 (((G.2.2.1 1 + G.2.2.1 5)) + t)) 6 (((G.2.2.1 3 + G.2.2.1 7)) + 1)) 7 0) 14 ((G.2.2.1 0) + 1)) 15 ((G.2.2.1 1) + t)) 17 ((G.2.2.1 3) + 1)))) from hmh20.2.1) (by omega) (by omega) (by unfold i32; omega) rfl ?_
      intro h21 eh21 oh21
      have hmh21 : mM h21 s (mUp A 0 (eUp (eUp (eUp (eUp (eUp (eUp (eUp (eUp g2 (22 + (G.2.2.2.1 - 1)).toNat 0) 3 (((G.2.2.1 1 + G.2.2.1 5)) + t)) 6 (((G.2.2.1 3 + G.2.2.1 7)) + 1)) 7 0) 14 ((G.2.2.1 0) + 1)) 15 ((G.2.2.1 1) + t)) 17 ((G.2.2.1 3) + 1)) 1 (1 - 0))) := mM_0 hmh20 eh21 oh21 ⟨rfl, rfl, rfl, rfl, rfl, rfl, rfl, rfl⟩
      have frh21 : mFr h h21 := mFr_a frh20 (by decide) oh21
      refine eW_ret rfl rfl ?_
      refine ⟨_, rfl, _, ⟨hmh21, frh21⟩, ?_⟩
      have hM9 : gMake G (p, t, l) = (gDel (eUp G.1 p.toNat l) p.toNat G.2.2.2.1.toNat, G.2.1, gTls G t, G.2.2.2.1 - 1, 1 - G.2.2.2.2.1, G.2.2.2.2.2) := by
        unfold gMake gCut
        dsimp only
        rw [decide_eq_false (by omega : ¬ 0 < G.1 p.toNat - t - l), decide_eq_true (by omega : l = 0)]
      have hw := gWin_c (gI_make hI hM)
      rw [hM9] at hw
      dsimp only at hw
      rw [hM9]
      refine ⟨(Eq.trans (eUp_ne (by decide)) (Eq.trans (eUp_ne (by decide)) (Eq.trans (eUp_ne (by decide)) (Eq.trans (eUp_ne (by decide)) (Eq.trans (eUp_ne (by decide)) (Eq.trans (eUp_ne (by decide)) (Eq.trans (eUp_ne (by decide)) (Eq.trans (eUp_ne (by omega)) (Eq.trans (fj 0 (by decide)) hg0))))))))), (by rw [ht0]; exact (eUp_eq rfl)), (Eq.trans (eUp_ne (by decide)) (Eq.trans (eUp_ne (by decide)) (Eq.trans (eUp_ne (by decide)) (Eq.trans (eUp_ne (by decide)) (Eq.trans (eUp_ne (by decide)) (Eq.trans (eUp_ne (by decide)) (Eq.trans (eUp_ne (by decide)) (Eq.trans (eUp_ne (by omega)) (Eq.trans (fj 2 (by decide)) (Eq.trans (eUp_ne (by decide)) (Eq.trans (eUp_ne (by omega)) hr.2.2.1))))))))))), (by have e9 : (eUp (eUp (eUp (eUp (eUp (eUp (eUp (eUp g2 (22 + (G.2.2.2.1 - 1)).toNat 0) 3 (((G.2.2.1 1 + G.2.2.1 5)) + t)) 6 (((G.2.2.1 3 + G.2.2.1 7)) + 1)) 7 0) 14 ((G.2.2.1 0) + 1)) 15 ((G.2.2.1 1) + t)) 17 ((G.2.2.1 3) + 1)) 1 (1 - 0)) 3 = ((G.2.2.1 1 + G.2.2.1 5)) + t := (Eq.trans (eUp_ne (by decide)) (Eq.trans (eUp_ne (by decide)) (Eq.trans (eUp_ne (by decide)) (Eq.trans (eUp_ne (by decide)) (Eq.trans (eUp_ne (by decide)) (Eq.trans (eUp_ne (by decide)) (eUp_eq rfl))))))); exact e9.trans (show (((G.2.2.1 1 + G.2.2.1 5)) + t : Int) = gTls G t 1 + gTls G t 5 by first | rfl | omega)), (Eq.trans (eUp_ne (by decide)) (Eq.trans (eUp_ne (by decide)) (Eq.trans (eUp_ne (by decide)) (Eq.trans (eUp_ne (by decide)) (Eq.trans (eUp_ne (by decide)) (Eq.trans (eUp_ne (by decide)) (Eq.trans (eUp_ne (by decide)) (Eq.trans (eUp_ne (by omega)) (Eq.trans (fj 4 (by decide)) (Eq.trans (eUp_ne (by decide)) (Eq.trans (eUp_ne (by omega)) hr.2.2.2.2.1))))))))))), (Eq.trans (eUp_ne (by decide)) (Eq.trans (eUp_ne (by decide)) (Eq.trans (eUp_ne (by decide)) (Eq.trans (eUp_ne (by decide)) (Eq.trans (eUp_ne (by decide)) (Eq.trans (eUp_ne (by decide)) (Eq.trans (eUp_ne (by decide)) (Eq.trans (eUp_ne (by omega)) (Eq.trans (fj 5 (by decide)) (Eq.trans (eUp_ne (by decide)) (Eq.trans (eUp_ne (by omega)) hr.2.2.2.2.2.1))))))))))), (by have e9 : (eUp (eUp (eUp (eUp (eUp (eUp (eUp (eUp g2 (22 + (G.2.2.2.1 - 1)).toNat 0) 3 (((G.2.2.1 1 + G.2.2.1 5)) + t)) 6 (((G.2.2.1 3 + G.2.2.1 7)) + 1)) 7 0) 14 ((G.2.2.1 0) + 1)) 15 ((G.2.2.1 1) + t)) 17 ((G.2.2.1 3) + 1)) 1 (1 - 0)) 6 = ((G.2.2.1 3 + G.2.2.1 7)) + 1 := (Eq.trans (eUp_ne (by decide)) (Eq.trans (eUp_ne (by decide)) (Eq.trans (eUp_ne (by decide)) (Eq.trans (eUp_ne (by decide)) (Eq.trans (eUp_ne (by decide)) (eUp_eq rfl)))))); exact e9.trans (show (((G.2.2.1 3 + G.2.2.1 7)) + 1 : Int) = gTls G t 3 + gTls G t 7 by first | rfl | omega)), (by have e9 : (eUp (eUp (eUp (eUp (eUp (eUp (eUp (eUp g2 (22 + (G.2.2.2.1 - 1)).toNat 0) 3 (((G.2.2.1 1 + G.2.2.1 5)) + t)) 6 (((G.2.2.1 3 + G.2.2.1 7)) + 1)) 7 0) 14 ((G.2.2.1 0) + 1)) 15 ((G.2.2.1 1) + t)) 17 ((G.2.2.1 3) + 1)) 1 (1 - 0)) 7 = 0 := (Eq.trans (eUp_ne (by decide)) (Eq.trans (eUp_ne (by decide)) (Eq.trans (eUp_ne (by decide)) (Eq.trans (eUp_ne (by decide)) (eUp_eq rfl))))); exact e9.trans (show (0 : Int) = gWin (gDel (eUp G.1 p.toNat l) p.toNat G.2.2.2.1.toNat, G.2.1, gTls G t, G.2.2.2.1 - 1, 1 - G.2.2.2.2.1, G.2.2.2.2.2) by first | rfl | omega)), eL6 (Eq.trans (eUp_ne (by decide)) (Eq.trans (eUp_ne (by decide)) (Eq.trans (eUp_ne (by decide)) (Eq.trans (eUp_ne (by decide)) (Eq.trans (eUp_ne (by decide)) (Eq.trans (eUp_ne (by decide)) (Eq.trans (eUp_ne (by decide)) (Eq.trans (eUp_ne (by omega)) (Eq.trans (fj 8 (by decide)) (Eq.trans (eUp_ne (by decide)) (Eq.trans (eUp_ne (by omega)) (hr.2.2.2.2.2.2.2.2.1 0 (by decide))))))))))))) (Eq.trans (eUp_ne (by decide)) (Eq.trans (eUp_ne (by decide)) (Eq.trans (eUp_ne (by decide)) (Eq.trans (eUp_ne (by decide)) (Eq.trans (eUp_ne (by decide)) (Eq.trans (eUp_ne (by decide)) (Eq.trans (eUp_ne (by decide)) (Eq.trans (eUp_ne (by omega)) (Eq.trans (fj 9 (by decide)) (Eq.trans (eUp_ne (by decide)) (Eq.trans (eUp_ne (by omega)) (hr.2.2.2.2.2.2.2.2.1 1 (by decide))))))))))))) (Eq.trans (eUp_ne (by decide)) (Eq.trans (eUp_ne (by decide)) (Eq.trans (eUp_ne (by decide)) (Eq.trans (eUp_ne (by decide)) (Eq.trans (eUp_ne (by decide)) (Eq.trans (eUp_ne (by decide)) (Eq.trans (eUp_ne (by decide)) (Eq.trans (eUp_ne (by omega)) (Eq.trans (fj 10 (by decide)) (Eq.trans (eUp_ne (by decide)) (Eq.trans (eUp_ne (by omega)) (hr.2.2.2.2.2.2.2.2.1 2 (by decide))))))))))))) (Eq.trans (eUp_ne (by decide)) (Eq.trans (eUp_ne (by decide)) (Eq.trans (eUp_ne (by decide)) (Eq.trans (eUp_ne (by decide)) (Eq.trans (eUp_ne (by decide)) (Eq.trans (eUp_ne (by decide)) (Eq.trans (eUp_ne (by decide)) (Eq.trans (eUp_ne (by omega)) (Eq.trans (fj 11 (by decide)) (Eq.trans (eUp_ne (by decide)) (Eq.trans (eUp_ne (by omega)) (hr.2.2.2.2.2.2.2.2.1 3 (by decide))))))))))))) (Eq.trans (eUp_ne (by decide)) (Eq.trans (eUp_ne (by decide)) (Eq.trans (eUp_ne (by decide)) (Eq.trans (eUp_ne (by decide)) (Eq.trans (eUp_ne (by decide)) (Eq.trans (eUp_ne (by decide)) (Eq.trans (eUp_ne (by decide)) (Eq.trans (eUp_ne (by omega)) (Eq.trans (fj 12 (by decide)) (Eq.trans (eUp_ne (by decide)) (Eq.trans (eUp_ne (by omega)) (hr.2.2.2.2.2.2.2.2.1 4 (by decide))))))))))))) (Eq.trans (eUp_ne (by decide)) (Eq.trans (eUp_ne (by decide)) (Eq.trans (eUp_ne (by decide)) (Eq.trans (eUp_ne (by decide)) (Eq.trans (eUp_ne (by decide)) (Eq.trans (eUp_ne (by decide)) (Eq.trans (eUp_ne (by decide)) (Eq.trans (eUp_ne (by omega)) (Eq.trans (fj 13 (by decide)) (Eq.trans (eUp_ne (by decide)) (Eq.trans (eUp_ne (by omega)) (hr.2.2.2.2.2.2.2.2.1 5 (by decide))))))))))))), eL8 (by have e9 : (eUp (eUp (eUp (eUp (eUp (eUp (eUp (eUp g2 (22 + (G.2.2.2.1 - 1)).toNat 0) 3 (((G.2.2.1 1 + G.2.2.1 5)) + t)) 6 (((G.2.2.1 3 + G.2.2.1 7)) + 1)) 7 0) 14 ((G.2.2.1 0) + 1)) 15 ((G.2.2.1 1) + t)) 17 ((G.2.2.1 3) + 1)) 1 (1 - 0)) 14 = (G.2.2.1 0) + 1 := (Eq.trans (eUp_ne (by decide)) (Eq.trans (eUp_ne (by decide)) (Eq.trans (eUp_ne (by decide)) (eUp_eq rfl)))); exact e9.trans (show ((G.2.2.1 0) + 1 : Int) = gTls G t 0 by first | rfl | omega)) (by have e9 : (eUp (eUp (eUp (eUp (eUp (eUp (eUp (eUp g2 (22 + (G.2.2.2.1 - 1)).toNat 0) 3 (((G.2.2.1 1 + G.2.2.1 5)) + t)) 6 (((G.2.2.1 3 + G.2.2.1 7)) + 1)) 7 0) 14 ((G.2.2.1 0) + 1)) 15 ((G.2.2.1 1) + t)) 17 ((G.2.2.1 3) + 1)) 1 (1 - 0)) 15 = (G.2.2.1 1) + t := (Eq.trans (eUp_ne (by decide)) (Eq.trans (eUp_ne (by decide)) (eUp_eq rfl))); exact e9.trans (show ((G.2.2.1 1) + t : Int) = gTls G t 1 by first | rfl | omega)) (by have e9 : (eUp (eUp (eUp (eUp (eUp (eUp (eUp (eUp g2 (22 + (G.2.2.2.1 - 1)).toNat 0) 3 (((G.2.2.1 1 + G.2.2.1 5)) + t)) 6 (((G.2.2.1 3 + G.2.2.1 7)) + 1)) 7 0) 14 ((G.2.2.1 0) + 1)) 15 ((G.2.2.1 1) + t)) 17 ((G.2.2.1 3) + 1)) 1 (1 - 0)) 16 = G.2.2.1 2 := (Eq.trans (eUp_ne (by decide)) (Eq.trans (eUp_ne (by decide)) (Eq.trans (eUp_ne (by decide)) (Eq.trans (eUp_ne (by decide)) (Eq.trans (eUp_ne (by decide)) (Eq.trans (eUp_ne (by decide)) (Eq.trans (eUp_ne (by decide)) (Eq.trans (eUp_ne (by omega)) (Eq.trans (fj 16 (by decide)) (Eq.trans (eUp_ne (by decide)) (Eq.trans (eUp_ne (by omega)) (hr.2.2.2.2.2.2.2.2.2.1 2 (by decide))))))))))))); exact e9.trans (show (G.2.2.1 2 : Int) = gTls G t 2 by first | rfl | omega)) (by have e9 : (eUp (eUp (eUp (eUp (eUp (eUp (eUp (eUp g2 (22 + (G.2.2.2.1 - 1)).toNat 0) 3 (((G.2.2.1 1 + G.2.2.1 5)) + t)) 6 (((G.2.2.1 3 + G.2.2.1 7)) + 1)) 7 0) 14 ((G.2.2.1 0) + 1)) 15 ((G.2.2.1 1) + t)) 17 ((G.2.2.1 3) + 1)) 1 (1 - 0)) 17 = (G.2.2.1 3) + 1 := (Eq.trans (eUp_ne (by decide)) (eUp_eq rfl)); exact e9.trans (show ((G.2.2.1 3) + 1 : Int) = gTls G t 3 by first | rfl | omega)) (by have e9 : (eUp (eUp (eUp (eUp (eUp (eUp (eUp (eUp g2 (22 + (G.2.2.2.1 - 1)).toNat 0) 3 (((G.2.2.1 1 + G.2.2.1 5)) + t)) 6 (((G.2.2.1 3 + G.2.2.1 7)) + 1)) 7 0) 14 ((G.2.2.1 0) + 1)) 15 ((G.2.2.1 1) + t)) 17 ((G.2.2.1 3) + 1)) 1 (1 - 0)) 18 = G.2.2.1 4 := (Eq.trans (eUp_ne (by decide)) (Eq.trans (eUp_ne (by decide)) (Eq.trans (eUp_ne (by decide)) (Eq.trans (eUp_ne (by decide)) (Eq.trans (eUp_ne (by decide)) (Eq.trans (eUp_ne (by decide)) (Eq.trans (eUp_ne (by decide)) (Eq.trans (eUp_ne (by omega)) (Eq.trans (fj 18 (by decide)) (Eq.trans (eUp_ne (by decide)) (Eq.trans (eUp_ne (by omega)) (hr.2.2.2.2.2.2.2.2.2.1 4 (by decide))))))))))))); exact e9.trans (show (G.2.2.1 4 : Int) = gTls G t 4 by first | rfl | omega)) (by have e9 : (eUp (eUp (eUp (eUp (eUp (eUp (eUp (eUp g2 (22 + (G.2.2.2.1 - 1)).toNat 0) 3 (((G.2.2.1 1 + G.2.2.1 5)) + t)) 6 (((G.2.2.1 3 + G.2.2.1 7)) + 1)) 7 0) 14 ((G.2.2.1 0) + 1)) 15 ((G.2.2.1 1) + t)) 17 ((G.2.2.1 3) + 1)) 1 (1 - 0)) 19 = G.2.2.1 5 := (Eq.trans (eUp_ne (by decide)) (Eq.trans (eUp_ne (by decide)) (Eq.trans (eUp_ne (by decide)) (Eq.trans (eUp_ne (by decide)) (Eq.trans (eUp_ne (by decide)) (Eq.trans (eUp_ne (by decide)) (Eq.trans (eUp_ne (by decide)) (Eq.trans (eUp_ne (by omega)) (Eq.trans (fj 19 (by decide)) (Eq.trans (eUp_ne (by decide)) (Eq.trans (eUp_ne (by omega)) (hr.2.2.2.2.2.2.2.2.2.1 5 (by decide))))))))))))); exact e9.trans (show (G.2.2.1 5 : Int) = gTls G t 5 by first | rfl | omega)) (by have e9 : (eUp (eUp (eUp (eUp (eUp (eUp (eUp (eUp g2 (22 + (G.2.2.2.1 - 1)).toNat 0) 3 (((G.2.2.1 1 + G.2.2.1 5)) + t)) 6 (((G.2.2.1 3 + G.2.2.1 7)) + 1)) 7 0) 14 ((G.2.2.1 0) + 1)) 15 ((G.2.2.1 1) + t)) 17 ((G.2.2.1 3) + 1)) 1 (1 - 0)) 20 = G.2.2.1 6 := (Eq.trans (eUp_ne (by decide)) (Eq.trans (eUp_ne (by decide)) (Eq.trans (eUp_ne (by decide)) (Eq.trans (eUp_ne (by decide)) (Eq.trans (eUp_ne (by decide)) (Eq.trans (eUp_ne (by decide)) (Eq.trans (eUp_ne (by decide)) (Eq.trans (eUp_ne (by omega)) (Eq.trans (fj 20 (by decide)) (Eq.trans (eUp_ne (by decide)) (Eq.trans (eUp_ne (by omega)) (hr.2.2.2.2.2.2.2.2.2.1 6 (by decide))))))))))))); exact e9.trans (show (G.2.2.1 6 : Int) = gTls G t 6 by first | rfl | omega)) (by have e9 : (eUp (eUp (eUp (eUp (eUp (eUp (eUp (eUp g2 (22 + (G.2.2.2.1 - 1)).toNat 0) 3 (((G.2.2.1 1 + G.2.2.1 5)) + t)) 6 (((G.2.2.1 3 + G.2.2.1 7)) + 1)) 7 0) 14 ((G.2.2.1 0) + 1)) 15 ((G.2.2.1 1) + t)) 17 ((G.2.2.1 3) + 1)) 1 (1 - 0)) 21 = G.2.2.1 7 := (Eq.trans (eUp_ne (by decide)) (Eq.trans (eUp_ne (by decide)) (Eq.trans (eUp_ne (by decide)) (Eq.trans (eUp_ne (by decide)) (Eq.trans (eUp_ne (by decide)) (Eq.trans (eUp_ne (by decide)) (Eq.trans (eUp_ne (by decide)) (Eq.trans (eUp_ne (by omega)) (Eq.trans (fj 21 (by decide)) (Eq.trans (eUp_ne (by decide)) (Eq.trans (eUp_ne (by omega)) (hr.2.2.2.2.2.2.2.2.2.1 7 (by decide))))))))))))); exact e9.trans (show (G.2.2.1 7 : Int) = gTls G t 7 by first | rfl | omega)), fun i hi => ?_⟩
      have hi : (i : Int) < G.2.2.2.1 - 1 := hi
      refine Eq.trans (eUp_ne (by omega)) ?_
      refine Eq.trans (eUp_ne (by omega)) ?_
      refine Eq.trans (eUp_ne (by omega)) ?_
      refine Eq.trans (eUp_ne (by omega)) ?_
      refine Eq.trans (eUp_ne (by omega)) ?_
      refine Eq.trans (eUp_ne (by omega)) ?_
      refine Eq.trans (eUp_ne (by omega)) ?_
      refine Eq.trans (eUp_ne (by omega)) ?_
      refine (fm i (by omega)).trans ?_
      have e8 : ∀ j : Nat, (j : Int) < G.2.2.2.1 → eUp (eUp (A 0) (22 + p).toNat l) 0 (G.2.2.2.1 - 1) (22 + j) = eUp G.1 p.toNat l j := fun j hj => (eUp_ne (by omega)).trans ((eUp_sh (by omega) j).trans (eUp_cg (hr.2.2.2.2.2.2.2.2.2.2 j (by omega))))
      show gDel _ p.toNat (G.2.2.2.1 - 1 + 1).toNat i = gDel (eUp G.1 p.toNat l) p.toNat G.2.2.2.1.toNat i
      rw [show (G.2.2.2.1 - 1 + 1).toNat = G.2.2.2.1.toNat by omega]
      by_cases hq : p.toNat ≤ i
      · rw [gDel_lt (by omega), gDel_lt (by omega)]; exact e8 (i + 1) (by omega)
      · rw [gDel_ge (by omega), gDel_ge (by omega)]; exact e8 i (by omega)
  · refine eW_aload_n 40 rfl rfl rfl ?_
    refine eW_iload 42 rfl rfl rfl ?_
    refine eW_callVH 45 [.ref 63, vI (((G.1 p.toNat) - t) - l)] [] [vI (G.2.2.2.1 + 1 - 1)] rfl rfl rfl rfl (Nat.ble_eq_true_of_le (by omega)) hmh2.1 rfl rfl rfl (m_comes (d := d + 0) hmh2 hN (n := G.2.2.2.1) (show (eUp (A 0) (22 + p).toNat l) 0 = G.2.2.2.1 from (Eq.trans (eUp_ne (by omega)) hr.1)) ⟨g1, by omega⟩) rfl rfl ?_
    intro h22 fh22
    have hmh22 : mM h22 s (mUp A 0 (eUp (eUp (eUp (A 0) (22 + p).toNat l) (22 + G.2.2.2.1).toNat (((G.1 p.toNat) - t) - l)) 0 (G.2.2.2.1 + 1))) := fh22.1
    have frh22 : mFr h h22 := mFr_t frh2 fh22.2
    refine eW_pop 46 rfl rfl rfl ?_
    refine eW_iload_n 47 rfl rfl rfl ?_
    refine eW_if_ne 50 rfl rfl (by unfold i32; omega) (fun c23 => ?_) (fun c23 => absurd c23 (by omega))
    refine eW_aload_n 118 rfl rfl rfl ?_
    refine eW_getfield 121 rfl rfl (Nat.ble_eq_true_of_le (by omega)) rfl hmh22.1 rfl ⟨rfl, fun _ h9 => nomatch h9⟩ ?_
    refine eW_iconst 122 rfl rfl ?_
    refine eW_dup2 123 rfl rfl rfl ?_
    refine eW_iaload 124 rfl rfl ((G.2.2.1 1 + G.2.2.1 5)) (Nat.ble_eq_true_of_le (by omega)) (show h22 64 = .inl (0, 62, .inl (eIA (eUp (eUp (eUp (A 0) (22 + p).toNat l) (22 + G.2.2.2.1).toNat (((G.1 p.toNat) - t) - l)) 0 (G.2.2.2.1 + 1)))) from hmh22.2.1) (by omega) (by omega) (by unfold i32; omega) (congrArg Int32.ofInt (Eq.trans (eUp_ne (by decide)) (Eq.trans (eUp_ne (by omega)) (Eq.trans (eUp_ne (by omega)) hr.2.2.2.1)))) ?_
    refine eW_iload_n 125 rfl rfl rfl ?_
    refine eW_iadd 126 rfl rfl ?_
    refine eW_iastore 127 rfl rfl (Nat.ble_eq_true_of_le (by omega)) (show h22 64 = .inl (0, 62, .inl (eIA (eUp (eUp (eUp (A 0) (22 + p).toNat l) (22 + G.2.2.2.1).toNat (((G.1 p.toNat) - t) - l)) 0 (G.2.2.2.1 + 1)))) from hmh22.2.1) (by omega) (by omega) (by unfold i32; omega) rfl ?_
    intro h24 eh24 oh24
    have hmh24 : mM h24 s (mUp A 0 (eUp (eUp (eUp (eUp (A 0) (22 + p).toNat l) (22 + G.2.2.2.1).toNat (((G.1 p.toNat) - t) - l)) 0 (G.2.2.2.1 + 1)) 3 (((G.2.2.1 1 + G.2.2.1 5)) + t))) := mM_0 hmh22 eh24 oh24 ⟨rfl, rfl, rfl, rfl, rfl, rfl, rfl, rfl⟩
    have frh24 : mFr h h24 := mFr_a frh22 (by decide) oh24
    refine eW_aload_n 128 rfl rfl rfl ?_
    refine eW_getfield 131 rfl rfl (Nat.ble_eq_true_of_le (by omega)) rfl hmh24.1 rfl ⟨rfl, fun _ h9 => nomatch h9⟩ ?_
    refine eW_bipush 133 rfl rfl 6 rfl ?_
    refine eW_dup2 134 rfl rfl rfl ?_
    refine eW_iaload 135 rfl rfl ((G.2.2.1 3 + G.2.2.1 7)) (Nat.ble_eq_true_of_le (by omega)) (show h24 64 = .inl (0, 62, .inl (eIA (eUp (eUp (eUp (eUp (A 0) (22 + p).toNat l) (22 + G.2.2.2.1).toNat (((G.1 p.toNat) - t) - l)) 0 (G.2.2.2.1 + 1)) 3 (((G.2.2.1 1 + G.2.2.1 5)) + t)))) from hmh24.2.1) (by omega) (by omega) (by unfold i32; omega) (congrArg Int32.ofInt (Eq.trans (eUp_ne (by decide)) (Eq.trans (eUp_ne (by decide)) (Eq.trans (eUp_ne (by omega)) (Eq.trans (eUp_ne (by omega)) hr.2.2.2.2.2.2.1))))) ?_
    refine eW_iconst 136 rfl rfl ?_
    refine eW_iadd 137 rfl rfl ?_
    refine eW_iastore 138 rfl rfl (Nat.ble_eq_true_of_le (by omega)) (show h24 64 = .inl (0, 62, .inl (eIA (eUp (eUp (eUp (eUp (A 0) (22 + p).toNat l) (22 + G.2.2.2.1).toNat (((G.1 p.toNat) - t) - l)) 0 (G.2.2.2.1 + 1)) 3 (((G.2.2.1 1 + G.2.2.1 5)) + t)))) from hmh24.2.1) (by omega) (by omega) (by unfold i32; omega) rfl ?_
    intro h25 eh25 oh25
    have hmh25 : mM h25 s (mUp A 0 (eUp (eUp (eUp (eUp (eUp (A 0) (22 + p).toNat l) (22 + G.2.2.2.1).toNat (((G.1 p.toNat) - t) - l)) 0 (G.2.2.2.1 + 1)) 3 (((G.2.2.1 1 + G.2.2.1 5)) + t)) 6 (((G.2.2.1 3 + G.2.2.1 7)) + 1))) := mM_0 hmh24 eh25 oh25 ⟨rfl, rfl, rfl, rfl, rfl, rfl, rfl, rfl⟩
    have frh25 : mFr h h25 := mFr_a frh24 (by decide) oh25
    refine eW_aload_n 139 rfl rfl rfl ?_
    refine eW_getfield 142 rfl rfl (Nat.ble_eq_true_of_le (by omega)) rfl hmh25.1 rfl ⟨rfl, fun _ h9 => nomatch h9⟩ ?_
    refine eW_bipush 144 rfl rfl 7 rfl ?_
    refine eW_aload_n 145 rfl rfl rfl ?_
    refine eW_getfield 148 rfl rfl (Nat.ble_eq_true_of_le (by omega)) rfl hmh25.1 rfl ⟨rfl, fun _ h9 => nomatch h9⟩ ?_
    refine eW_iconst 149 rfl rfl ?_
    refine eW_iaload 150 rfl rfl 0 (Nat.ble_eq_true_of_le (by omega)) (show h25 64 = .inl (0, 62, .inl (eIA (eUp (eUp (eUp (eUp (eUp (A 0) (22 + p).toNat l) (22 + G.2.2.2.1).toNat (((G.1 p.toNat) - t) - l)) 0 (G.2.2.2.1 + 1)) 3 (((G.2.2.1 1 + G.2.2.1 5)) + t)) 6 (((G.2.2.1 3 + G.2.2.1 7)) + 1)))) from hmh25.2.1) (by omega) (by omega) (by unfold i32; omega) (congrArg Int32.ofInt (Eq.trans (eUp_ne (by decide)) (Eq.trans (eUp_ne (by decide)) (Eq.trans (eUp_ne (by decide)) (Eq.trans (eUp_ne (by omega)) (Eq.trans (eUp_ne (by omega)) (hr.2.1.trans ht0))))))) ?_
    refine eW_iastore 151 rfl rfl (Nat.ble_eq_true_of_le (by omega)) (show h25 64 = .inl (0, 62, .inl (eIA (eUp (eUp (eUp (eUp (eUp (A 0) (22 + p).toNat l) (22 + G.2.2.2.1).toNat (((G.1 p.toNat) - t) - l)) 0 (G.2.2.2.1 + 1)) 3 (((G.2.2.1 1 + G.2.2.1 5)) + t)) 6 (((G.2.2.1 3 + G.2.2.1 7)) + 1)))) from hmh25.2.1) (by omega) (by omega) (by unfold i32; omega) rfl ?_
    intro h26 eh26 oh26
    have hmh26 : mM h26 s (mUp A 0 (eUp (eUp (eUp (eUp (eUp (eUp (A 0) (22 + p).toNat l) (22 + G.2.2.2.1).toNat (((G.1 p.toNat) - t) - l)) 0 (G.2.2.2.1 + 1)) 3 (((G.2.2.1 1 + G.2.2.1 5)) + t)) 6 (((G.2.2.1 3 + G.2.2.1 7)) + 1)) 7 0)) := mM_0 hmh25 eh26 oh26 ⟨rfl, rfl, rfl, rfl, rfl, rfl, rfl, rfl⟩
    have frh26 : mFr h h26 := mFr_a frh25 (by decide) oh26
    refine eW_aload_n 152 rfl rfl rfl ?_
    refine eW_getfield 155 rfl rfl (Nat.ble_eq_true_of_le (by omega)) rfl hmh26.1 rfl ⟨rfl, fun _ h9 => nomatch h9⟩ ?_
    refine eW_iload 157 rfl rfl rfl ?_
    refine eW_dup2 158 rfl rfl rfl ?_
    refine eW_iaload 159 rfl rfl (G.2.2.1 0) (Nat.ble_eq_true_of_le (by omega)) (show h26 64 = .inl (0, 62, .inl (eIA (eUp (eUp (eUp (eUp (eUp (eUp (A 0) (22 + p).toNat l) (22 + G.2.2.2.1).toNat (((G.1 p.toNat) - t) - l)) 0 (G.2.2.2.1 + 1)) 3 (((G.2.2.1 1 + G.2.2.1 5)) + t)) 6 (((G.2.2.1 3 + G.2.2.1 7)) + 1)) 7 0))) from hmh26.2.1) (by omega) (by omega) (by unfold i32; omega) (congrArg Int32.ofInt (Eq.trans (eUp_ne (by decide)) (Eq.trans (eUp_ne (by decide)) (Eq.trans (eUp_ne (by decide)) (Eq.trans (eUp_ne (by decide)) (Eq.trans (eUp_ne (by omega)) (Eq.trans (eUp_ne (by omega)) (hr.2.2.2.2.2.2.2.2.2.1 0 (by decide))))))))) ?_
    refine eW_iconst 160 rfl rfl ?_
    refine eW_iadd 161 rfl rfl ?_
    refine eW_iastore 162 rfl rfl (Nat.ble_eq_true_of_le (by omega)) (show h26 64 = .inl (0, 62, .inl (eIA (eUp (eUp (eUp (eUp (eUp (eUp (A 0) (22 + p).toNat l) (22 + G.2.2.2.1).toNat (((G.1 p.toNat) - t) - l)) 0 (G.2.2.2.1 + 1)) 3 (((G.2.2.1 1 + G.2.2.1 5)) + t)) 6 (((G.2.2.1 3 + G.2.2.1 7)) + 1)) 7 0))) from hmh26.2.1) (by omega) (by omega) (by unfold i32; omega) rfl ?_
    intro h27 eh27 oh27
    have hmh27 : mM h27 s (mUp A 0 (eUp (eUp (eUp (eUp (eUp (eUp (eUp (A 0) (22 + p).toNat l) (22 + G.2.2.2.1).toNat (((G.1 p.toNat) - t) - l)) 0 (G.2.2.2.1 + 1)) 3 (((G.2.2.1 1 + G.2.2.1 5)) + t)) 6 (((G.2.2.1 3 + G.2.2.1 7)) + 1)) 7 0) 14 ((G.2.2.1 0) + 1))) := mM_0 hmh26 eh27 oh27 ⟨rfl, rfl, rfl, rfl, rfl, rfl, rfl, rfl⟩
    have frh27 : mFr h h27 := mFr_a frh26 (by decide) oh27
    refine eW_aload_n 163 rfl rfl rfl ?_
    refine eW_getfield 166 rfl rfl (Nat.ble_eq_true_of_le (by omega)) rfl hmh27.1 rfl ⟨rfl, fun _ h9 => nomatch h9⟩ ?_
    refine eW_iload 168 rfl rfl rfl ?_
    refine eW_iconst 169 rfl rfl ?_
    refine eW_iadd 170 rfl rfl ?_
    refine eW_dup2 171 rfl rfl rfl ?_
    refine eW_iaload 172 rfl rfl (G.2.2.1 1) (Nat.ble_eq_true_of_le (by omega)) (show h27 64 = .inl (0, 62, .inl (eIA (eUp (eUp (eUp (eUp (eUp (eUp (eUp (A 0) (22 + p).toNat l) (22 + G.2.2.2.1).toNat (((G.1 p.toNat) - t) - l)) 0 (G.2.2.2.1 + 1)) 3 (((G.2.2.1 1 + G.2.2.1 5)) + t)) 6 (((G.2.2.1 3 + G.2.2.1 7)) + 1)) 7 0) 14 ((G.2.2.1 0) + 1)))) from hmh27.2.1) (by omega) (by omega) (by unfold i32; omega) (congrArg Int32.ofInt (Eq.trans (eUp_ne (by decide)) (Eq.trans (eUp_ne (by decide)) (Eq.trans (eUp_ne (by decide)) (Eq.trans (eUp_ne (by decide)) (Eq.trans (eUp_ne (by decide)) (Eq.trans (eUp_ne (by omega)) (Eq.trans (eUp_ne (by omega)) (hr.2.2.2.2.2.2.2.2.2.1 1 (by decide)))))))))) ?_
    refine eW_iload_n 173 rfl rfl rfl ?_
    refine eW_iadd 174 rfl rfl ?_
    refine eW_iastore 175 rfl rfl (Nat.ble_eq_true_of_le (by omega)) (show h27 64 = .inl (0, 62, .inl (eIA (eUp (eUp (eUp (eUp (eUp (eUp (eUp (A 0) (22 + p).toNat l) (22 + G.2.2.2.1).toNat (((G.1 p.toNat) - t) - l)) 0 (G.2.2.2.1 + 1)) 3 (((G.2.2.1 1 + G.2.2.1 5)) + t)) 6 (((G.2.2.1 3 + G.2.2.1 7)) + 1)) 7 0) 14 ((G.2.2.1 0) + 1)))) from hmh27.2.1) (by omega) (by omega) (by unfold i32; omega) rfl ?_
    intro h28 eh28 oh28
    have hmh28 : mM h28 s (mUp A 0 (eUp (eUp (eUp (eUp (eUp (eUp (eUp (eUp (A 0) (22 + p).toNat l) (22 + G.2.2.2.1).toNat (((G.1 p.toNat) - t) - l)) 0 (G.2.2.2.1 + 1)) 3 (((G.2.2.1 1 + G.2.2.1 5)) + t)) 6 (((G.2.2.1 3 + G.2.2.1 7)) + 1)) 7 0) 14 ((G.2.2.1 0) + 1)) 15 ((G.2.2.1 1) + t))) := mM_0 hmh27 eh28 oh28 ⟨rfl, rfl, rfl, rfl, rfl, rfl, rfl, rfl⟩
    have frh28 : mFr h h28 := mFr_a frh27 (by decide) oh28
    refine eW_aload_n 176 rfl rfl rfl ?_
    refine eW_getfield 179 rfl rfl (Nat.ble_eq_true_of_le (by omega)) rfl hmh28.1 rfl ⟨rfl, fun _ h9 => nomatch h9⟩ ?_
    refine eW_iload 181 rfl rfl rfl ?_
    refine eW_iconst 182 rfl rfl ?_
    refine eW_iadd 183 rfl rfl ?_
    refine eW_dup2 184 rfl rfl rfl ?_
    refine eW_iaload 185 rfl rfl (G.2.2.1 3) (Nat.ble_eq_true_of_le (by omega)) (show h28 64 = .inl (0, 62, .inl (eIA (eUp (eUp (eUp (eUp (eUp (eUp (eUp (eUp (A 0) (22 + p).toNat l) (22 + G.2.2.2.1).toNat (((G.1 p.toNat) - t) - l)) 0 (G.2.2.2.1 + 1)) 3 (((G.2.2.1 1 + G.2.2.1 5)) + t)) 6 (((G.2.2.1 3 + G.2.2.1 7)) + 1)) 7 0) 14 ((G.2.2.1 0) + 1)) 15 ((G.2.2.1 1) + t)))) from hmh28.2.1) (by omega) (by omega) (by unfold i32; omega) (congrArg Int32.ofInt (Eq.trans (eUp_ne (by decide)) (Eq.trans (eUp_ne (by decide)) (Eq.trans (eUp_ne (by decide)) (Eq.trans (eUp_ne (by decide)) (Eq.trans (eUp_ne (by decide)) (Eq.trans (eUp_ne (by decide)) (Eq.trans (eUp_ne (by omega)) (Eq.trans (eUp_ne (by omega)) (hr.2.2.2.2.2.2.2.2.2.1 3 (by decide))))))))))) ?_
    refine eW_iconst 186 rfl rfl ?_
    refine eW_iadd 187 rfl rfl ?_
    refine eW_iastore 188 rfl rfl (Nat.ble_eq_true_of_le (by omega)) (show h28 64 = .inl (0, 62, .inl (eIA (eUp (eUp (eUp (eUp (eUp (eUp (eUp (eUp (A 0) (22 + p).toNat l) (22 + G.2.2.2.1).toNat (((G.1 p.toNat) - t) - l)) 0 (G.2.2.2.1 + 1)) 3 (((G.2.2.1 1 + G.2.2.1 5)) + t)) 6 (((G.2.2.1 3 + G.2.2.1 7)) + 1)) 7 0) 14 ((G.2.2.1 0) + 1)) 15 ((G.2.2.1 1) + t)))) from hmh28.2.1) (by omega) (by omega) (by unfold i32; omega) rfl ?_
    intro h29 eh29 oh29
    have hmh29 : mM h29 s (mUp A 0 (eUp (eUp (eUp (eUp (eUp (eUp (eUp (eUp (eUp (A 0) (22 + p).toNat l) (22 + G.2.2.2.1).toNat (((G.1 p.toNat) - t) - l)) 0 (G.2.2.2.1 + 1)) 3 (((G.2.2.1 1 + G.2.2.1 5)) + t)) 6 (((G.2.2.1 3 + G.2.2.1 7)) + 1)) 7 0) 14 ((G.2.2.1 0) + 1)) 15 ((G.2.2.1 1) + t)) 17 ((G.2.2.1 3) + 1))) := mM_0 hmh28 eh29 oh29 ⟨rfl, rfl, rfl, rfl, rfl, rfl, rfl, rfl⟩
    have frh29 : mFr h h29 := mFr_a frh28 (by decide) oh29
    refine eW_aload_n 189 rfl rfl rfl ?_
    refine eW_getfield 192 rfl rfl (Nat.ble_eq_true_of_le (by omega)) rfl hmh29.1 rfl ⟨rfl, fun _ h9 => nomatch h9⟩ ?_
    refine eW_iconst 193 rfl rfl ?_
    refine eW_iconst 194 rfl rfl ?_
    refine eW_aload_n 195 rfl rfl rfl ?_
    refine eW_getfield 198 rfl rfl (Nat.ble_eq_true_of_le (by omega)) rfl hmh29.1 rfl ⟨rfl, fun _ h9 => nomatch h9⟩ ?_
    refine eW_iconst 199 rfl rfl ?_
    refine eW_iaload 200 rfl rfl 0 (Nat.ble_eq_true_of_le (by omega)) (show h29 64 = .inl (0, 62, .inl (eIA (eUp (eUp (eUp (eUp (eUp (eUp (eUp (eUp (eUp (A 0) (22 + p).toNat l) (22 + G.2.2.2.1).toNat (((G.1 p.toNat) - t) - l)) 0 (G.2.2.2.1 + 1)) 3 (((G.2.2.1 1 + G.2.2.1 5)) + t)) 6 (((G.2.2.1 3 + G.2.2.1 7)) + 1)) 7 0) 14 ((G.2.2.1 0) + 1)) 15 ((G.2.2.1 1) + t)) 17 ((G.2.2.1 3) + 1)))) from hmh29.2.1) (by omega) (by omega) (by unfold i32; omega) (congrArg Int32.ofInt (Eq.trans (eUp_ne (by decide)) (Eq.trans (eUp_ne (by decide)) (Eq.trans (eUp_ne (by decide)) (Eq.trans (eUp_ne (by decide)) (Eq.trans (eUp_ne (by decide)) (Eq.trans (eUp_ne (by decide)) (Eq.trans (eUp_ne (by decide)) (Eq.trans (eUp_ne (by omega)) (Eq.trans (eUp_ne (by omega)) (hr.2.1.trans ht0))))))))))) ?_
    refine eW_isub 201 rfl rfl ?_
    refine eW_iastore 202 rfl rfl (Nat.ble_eq_true_of_le (by omega)) (show h29 64 = .inl (0, 62, .inl (eIA (eUp (eUp (eUp (eUp (eUp (eUp (eUp (eUp (eUp (A 0) (22 + p).toNat l) (22 + G.2.2.2.1).toNat (((G.1 p.toNat) - t) - l)) 0 (G.2.2.2.1 + 1)) 3 (((G.2.2.1 1 + G.2.2.1 5)) + t)) 6 (((G.2.2.1 3 + G.2.2.1 7)) + 1)) 7 0) 14 ((G.2.2.1 0) + 1)) 15 ((G.2.2.1 1) + t)) 17 ((G.2.2.1 3) + 1)))) from hmh29.2.1) (by omega) (by omega) (by unfold i32; omega) rfl ?_
    intro h30 eh30 oh30
    have hmh30 : mM h30 s (mUp A 0 (eUp (eUp (eUp (eUp (eUp (eUp (eUp (eUp (eUp (eUp (A 0) (22 + p).toNat l) (22 + G.2.2.2.1).toNat (((G.1 p.toNat) - t) - l)) 0 (G.2.2.2.1 + 1)) 3 (((G.2.2.1 1 + G.2.2.1 5)) + t)) 6 (((G.2.2.1 3 + G.2.2.1 7)) + 1)) 7 0) 14 ((G.2.2.1 0) + 1)) 15 ((G.2.2.1 1) + t)) 17 ((G.2.2.1 3) + 1)) 1 (1 - 0))) := mM_0 hmh29 eh30 oh30 ⟨rfl, rfl, rfl, rfl, rfl, rfl, rfl, rfl⟩
    have frh30 : mFr h h30 := mFr_a frh29 (by decide) oh30
    refine eW_ret rfl rfl ?_
    refine ⟨_, rfl, _, ⟨hmh30, frh30⟩, ?_⟩
    have hM9 : gMake G (p, t, l) = (eUp (eUp G.1 p.toNat l) G.2.2.2.1.toNat (G.1 p.toNat - t - l), G.2.1, gTls G t, G.2.2.2.1 + 1, 1 - G.2.2.2.2.1, G.2.2.2.2.2) := by
      unfold gMake gCut
      dsimp only
      rw [decide_eq_true (by omega : 0 < G.1 p.toNat - t - l), decide_eq_false (by omega : ¬ l = 0)]
    have hw := gWin_c (gI_make hI hM)
    rw [hM9] at hw
    dsimp only at hw
    rw [hM9]
    refine ⟨(Eq.trans (eUp_ne (by decide)) (Eq.trans (eUp_ne (by decide)) (Eq.trans (eUp_ne (by decide)) (Eq.trans (eUp_ne (by decide)) (Eq.trans (eUp_ne (by decide)) (Eq.trans (eUp_ne (by decide)) (Eq.trans (eUp_ne (by decide)) (eUp_eq rfl)))))))), (by rw [ht0]; exact (eUp_eq rfl)), (Eq.trans (eUp_ne (by decide)) (Eq.trans (eUp_ne (by decide)) (Eq.trans (eUp_ne (by decide)) (Eq.trans (eUp_ne (by decide)) (Eq.trans (eUp_ne (by decide)) (Eq.trans (eUp_ne (by decide)) (Eq.trans (eUp_ne (by decide)) (Eq.trans (eUp_ne (by decide)) (Eq.trans (eUp_ne (by omega)) (Eq.trans (eUp_ne (by omega)) hr.2.2.1)))))))))), (by have e9 : (eUp (eUp (eUp (eUp (eUp (eUp (eUp (eUp (eUp (eUp (A 0) (22 + p).toNat l) (22 + G.2.2.2.1).toNat (((G.1 p.toNat) - t) - l)) 0 (G.2.2.2.1 + 1)) 3 (((G.2.2.1 1 + G.2.2.1 5)) + t)) 6 (((G.2.2.1 3 + G.2.2.1 7)) + 1)) 7 0) 14 ((G.2.2.1 0) + 1)) 15 ((G.2.2.1 1) + t)) 17 ((G.2.2.1 3) + 1)) 1 (1 - 0)) 3 = ((G.2.2.1 1 + G.2.2.1 5)) + t := (Eq.trans (eUp_ne (by decide)) (Eq.trans (eUp_ne (by decide)) (Eq.trans (eUp_ne (by decide)) (Eq.trans (eUp_ne (by decide)) (Eq.trans (eUp_ne (by decide)) (Eq.trans (eUp_ne (by decide)) (eUp_eq rfl))))))); exact e9.trans (show (((G.2.2.1 1 + G.2.2.1 5)) + t : Int) = gTls G t 1 + gTls G t 5 by first | rfl | omega)), (Eq.trans (eUp_ne (by decide)) (Eq.trans (eUp_ne (by decide)) (Eq.trans (eUp_ne (by decide)) (Eq.trans (eUp_ne (by decide)) (Eq.trans (eUp_ne (by decide)) (Eq.trans (eUp_ne (by decide)) (Eq.trans (eUp_ne (by decide)) (Eq.trans (eUp_ne (by decide)) (Eq.trans (eUp_ne (by omega)) (Eq.trans (eUp_ne (by omega)) hr.2.2.2.2.1)))))))))), (Eq.trans (eUp_ne (by decide)) (Eq.trans (eUp_ne (by decide)) (Eq.trans (eUp_ne (by decide)) (Eq.trans (eUp_ne (by decide)) (Eq.trans (eUp_ne (by decide)) (Eq.trans (eUp_ne (by decide)) (Eq.trans (eUp_ne (by decide)) (Eq.trans (eUp_ne (by decide)) (Eq.trans (eUp_ne (by omega)) (Eq.trans (eUp_ne (by omega)) hr.2.2.2.2.2.1)))))))))), (by have e9 : (eUp (eUp (eUp (eUp (eUp (eUp (eUp (eUp (eUp (eUp (A 0) (22 + p).toNat l) (22 + G.2.2.2.1).toNat (((G.1 p.toNat) - t) - l)) 0 (G.2.2.2.1 + 1)) 3 (((G.2.2.1 1 + G.2.2.1 5)) + t)) 6 (((G.2.2.1 3 + G.2.2.1 7)) + 1)) 7 0) 14 ((G.2.2.1 0) + 1)) 15 ((G.2.2.1 1) + t)) 17 ((G.2.2.1 3) + 1)) 1 (1 - 0)) 6 = ((G.2.2.1 3 + G.2.2.1 7)) + 1 := (Eq.trans (eUp_ne (by decide)) (Eq.trans (eUp_ne (by decide)) (Eq.trans (eUp_ne (by decide)) (Eq.trans (eUp_ne (by decide)) (Eq.trans (eUp_ne (by decide)) (eUp_eq rfl)))))); exact e9.trans (show (((G.2.2.1 3 + G.2.2.1 7)) + 1 : Int) = gTls G t 3 + gTls G t 7 by first | rfl | omega)), (by have e9 : (eUp (eUp (eUp (eUp (eUp (eUp (eUp (eUp (eUp (eUp (A 0) (22 + p).toNat l) (22 + G.2.2.2.1).toNat (((G.1 p.toNat) - t) - l)) 0 (G.2.2.2.1 + 1)) 3 (((G.2.2.1 1 + G.2.2.1 5)) + t)) 6 (((G.2.2.1 3 + G.2.2.1 7)) + 1)) 7 0) 14 ((G.2.2.1 0) + 1)) 15 ((G.2.2.1 1) + t)) 17 ((G.2.2.1 3) + 1)) 1 (1 - 0)) 7 = 0 := (Eq.trans (eUp_ne (by decide)) (Eq.trans (eUp_ne (by decide)) (Eq.trans (eUp_ne (by decide)) (Eq.trans (eUp_ne (by decide)) (eUp_eq rfl))))); exact e9.trans (show (0 : Int) = gWin (eUp (eUp G.1 p.toNat l) G.2.2.2.1.toNat (G.1 p.toNat - t - l), G.2.1, gTls G t, G.2.2.2.1 + 1, 1 - G.2.2.2.2.1, G.2.2.2.2.2) by first | rfl | omega)), eL6 (Eq.trans (eUp_ne (by decide)) (Eq.trans (eUp_ne (by decide)) (Eq.trans (eUp_ne (by decide)) (Eq.trans (eUp_ne (by decide)) (Eq.trans (eUp_ne (by decide)) (Eq.trans (eUp_ne (by decide)) (Eq.trans (eUp_ne (by decide)) (Eq.trans (eUp_ne (by decide)) (Eq.trans (eUp_ne (by omega)) (Eq.trans (eUp_ne (by omega)) (hr.2.2.2.2.2.2.2.2.1 0 (by decide)))))))))))) (Eq.trans (eUp_ne (by decide)) (Eq.trans (eUp_ne (by decide)) (Eq.trans (eUp_ne (by decide)) (Eq.trans (eUp_ne (by decide)) (Eq.trans (eUp_ne (by decide)) (Eq.trans (eUp_ne (by decide)) (Eq.trans (eUp_ne (by decide)) (Eq.trans (eUp_ne (by decide)) (Eq.trans (eUp_ne (by omega)) (Eq.trans (eUp_ne (by omega)) (hr.2.2.2.2.2.2.2.2.1 1 (by decide)))))))))))) (Eq.trans (eUp_ne (by decide)) (Eq.trans (eUp_ne (by decide)) (Eq.trans (eUp_ne (by decide)) (Eq.trans (eUp_ne (by decide)) (Eq.trans (eUp_ne (by decide)) (Eq.trans (eUp_ne (by decide)) (Eq.trans (eUp_ne (by decide)) (Eq.trans (eUp_ne (by decide)) (Eq.trans (eUp_ne (by omega)) (Eq.trans (eUp_ne (by omega)) (hr.2.2.2.2.2.2.2.2.1 2 (by decide)))))))))))) (Eq.trans (eUp_ne (by decide)) (Eq.trans (eUp_ne (by decide)) (Eq.trans (eUp_ne (by decide)) (Eq.trans (eUp_ne (by decide)) (Eq.trans (eUp_ne (by decide)) (Eq.trans (eUp_ne (by decide)) (Eq.trans (eUp_ne (by decide)) (Eq.trans (eUp_ne (by decide)) (Eq.trans (eUp_ne (by omega)) (Eq.trans (eUp_ne (by omega)) (hr.2.2.2.2.2.2.2.2.1 3 (by decide)))))))))))) (Eq.trans (eUp_ne (by decide)) (Eq.trans (eUp_ne (by decide)) (Eq.trans (eUp_ne (by decide)) (Eq.trans (eUp_ne (by decide)) (Eq.trans (eUp_ne (by decide)) (Eq.trans (eUp_ne (by decide)) (Eq.trans (eUp_ne (by decide)) (Eq.trans (eUp_ne (by decide)) (Eq.trans (eUp_ne (by omega)) (Eq.trans (eUp_ne (by omega)) (hr.2.2.2.2.2.2.2.2.1 4 (by decide)))))))))))) (Eq.trans (eUp_ne (by decide)) (Eq.trans (eUp_ne (by decide)) (Eq.trans (eUp_ne (by decide)) (Eq.trans (eUp_ne (by decide)) (Eq.trans (eUp_ne (by decide)) (Eq.trans (eUp_ne (by decide)) (Eq.trans (eUp_ne (by decide)) (Eq.trans (eUp_ne (by decide)) (Eq.trans (eUp_ne (by omega)) (Eq.trans (eUp_ne (by omega)) (hr.2.2.2.2.2.2.2.2.1 5 (by decide)))))))))))), eL8 (by have e9 : (eUp (eUp (eUp (eUp (eUp (eUp (eUp (eUp (eUp (eUp (A 0) (22 + p).toNat l) (22 + G.2.2.2.1).toNat (((G.1 p.toNat) - t) - l)) 0 (G.2.2.2.1 + 1)) 3 (((G.2.2.1 1 + G.2.2.1 5)) + t)) 6 (((G.2.2.1 3 + G.2.2.1 7)) + 1)) 7 0) 14 ((G.2.2.1 0) + 1)) 15 ((G.2.2.1 1) + t)) 17 ((G.2.2.1 3) + 1)) 1 (1 - 0)) 14 = (G.2.2.1 0) + 1 := (Eq.trans (eUp_ne (by decide)) (Eq.trans (eUp_ne (by decide)) (Eq.trans (eUp_ne (by decide)) (eUp_eq rfl)))); exact e9.trans (show ((G.2.2.1 0) + 1 : Int) = gTls G t 0 by first | rfl | omega)) (by have e9 : (eUp (eUp (eUp (eUp (eUp (eUp (eUp (eUp (eUp (eUp (A 0) (22 + p).toNat l) (22 + G.2.2.2.1).toNat (((G.1 p.toNat) - t) - l)) 0 (G.2.2.2.1 + 1)) 3 (((G.2.2.1 1 + G.2.2.1 5)) + t)) 6 (((G.2.2.1 3 + G.2.2.1 7)) + 1)) 7 0) 14 ((G.2.2.1 0) + 1)) 15 ((G.2.2.1 1) + t)) 17 ((G.2.2.1 3) + 1)) 1 (1 - 0)) 15 = (G.2.2.1 1) + t := (Eq.trans (eUp_ne (by decide)) (Eq.trans (eUp_ne (by decide)) (eUp_eq rfl))); exact e9.trans (show ((G.2.2.1 1) + t : Int) = gTls G t 1 by first | rfl | omega)) (by have e9 : (eUp (eUp (eUp (eUp (eUp (eUp (eUp (eUp (eUp (eUp (A 0) (22 + p).toNat l) (22 + G.2.2.2.1).toNat (((G.1 p.toNat) - t) - l)) 0 (G.2.2.2.1 + 1)) 3 (((G.2.2.1 1 + G.2.2.1 5)) + t)) 6 (((G.2.2.1 3 + G.2.2.1 7)) + 1)) 7 0) 14 ((G.2.2.1 0) + 1)) 15 ((G.2.2.1 1) + t)) 17 ((G.2.2.1 3) + 1)) 1 (1 - 0)) 16 = G.2.2.1 2 := (Eq.trans (eUp_ne (by decide)) (Eq.trans (eUp_ne (by decide)) (Eq.trans (eUp_ne (by decide)) (Eq.trans (eUp_ne (by decide)) (Eq.trans (eUp_ne (by decide)) (Eq.trans (eUp_ne (by decide)) (Eq.trans (eUp_ne (by decide)) (Eq.trans (eUp_ne (by decide)) (Eq.trans (eUp_ne (by omega)) (Eq.trans (eUp_ne (by omega)) (hr.2.2.2.2.2.2.2.2.2.1 2 (by decide)))))))))))); exact e9.trans (show (G.2.2.1 2 : Int) = gTls G t 2 by first | rfl | omega)) (by have e9 : (eUp (eUp (eUp (eUp (eUp (eUp (eUp (eUp (eUp (eUp (A 0) (22 + p).toNat l) (22 + G.2.2.2.1).toNat (((G.1 p.toNat) - t) - l)) 0 (G.2.2.2.1 + 1)) 3 (((G.2.2.1 1 + G.2.2.1 5)) + t)) 6 (((G.2.2.1 3 + G.2.2.1 7)) + 1)) 7 0) 14 ((G.2.2.1 0) + 1)) 15 ((G.2.2.1 1) + t)) 17 ((G.2.2.1 3) + 1)) 1 (1 - 0)) 17 = (G.2.2.1 3) + 1 := (Eq.trans (eUp_ne (by decide)) (eUp_eq rfl)); exact e9.trans (show ((G.2.2.1 3) + 1 : Int) = gTls G t 3 by first | rfl | omega)) (by have e9 : (eUp (eUp (eUp (eUp (eUp (eUp (eUp (eUp (eUp (eUp (A 0) (22 + p).toNat l) (22 + G.2.2.2.1).toNat (((G.1 p.toNat) - t) - l)) 0 (G.2.2.2.1 + 1)) 3 (((G.2.2.1 1 + G.2.2.1 5)) + t)) 6 (((G.2.2.1 3 + G.2.2.1 7)) + 1)) 7 0) 14 ((G.2.2.1 0) + 1)) 15 ((G.2.2.1 1) + t)) 17 ((G.2.2.1 3) + 1)) 1 (1 - 0)) 18 = G.2.2.1 4 := (Eq.trans (eUp_ne (by decide)) (Eq.trans (eUp_ne (by decide)) (Eq.trans (eUp_ne (by decide)) (Eq.trans (eUp_ne (by decide)) (Eq.trans (eUp_ne (by decide)) (Eq.trans (eUp_ne (by decide)) (Eq.trans (eUp_ne (by decide)) (Eq.trans (eUp_ne (by decide)) (Eq.trans (eUp_ne (by omega)) (Eq.trans (eUp_ne (by omega)) (hr.2.2.2.2.2.2.2.2.2.1 4 (by decide)))))))))))); exact e9.trans (show (G.2.2.1 4 : Int) = gTls G t 4 by first | rfl | omega)) (by have e9 : (eUp (eUp (eUp (eUp (eUp (eUp (eUp (eUp (eUp (eUp (A 0) (22 + p).toNat l) (22 + G.2.2.2.1).toNat (((G.1 p.toNat) - t) - l)) 0 (G.2.2.2.1 + 1)) 3 (((G.2.2.1 1 + G.2.2.1 5)) + t)) 6 (((G.2.2.1 3 + G.2.2.1 7)) + 1)) 7 0) 14 ((G.2.2.1 0) + 1)) 15 ((G.2.2.1 1) + t)) 17 ((G.2.2.1 3) + 1)) 1 (1 - 0)) 19 = G.2.2.1 5 := (Eq.trans (eUp_ne (by decide)) (Eq.trans (eUp_ne (by decide)) (Eq.trans (eUp_ne (by decide)) (Eq.trans (eUp_ne (by decide)) (Eq.trans (eUp_ne (by decide)) (Eq.trans (eUp_ne (by decide)) (Eq.trans (eUp_ne (by decide)) (Eq.trans (eUp_ne (by decide)) (Eq.trans (eUp_ne (by omega)) (Eq.trans (eUp_ne (by omega)) (hr.2.2.2.2.2.2.2.2.2.1 5 (by decide)))))))))))); exact e9.trans (show (G.2.2.1 5 : Int) = gTls G t 5 by first | rfl | omega)) (by have e9 : (eUp (eUp (eUp (eUp (eUp (eUp (eUp (eUp (eUp (eUp (A 0) (22 + p).toNat l) (22 + G.2.2.2.1).toNat (((G.1 p.toNat) - t) - l)) 0 (G.2.2.2.1 + 1)) 3 (((G.2.2.1 1 + G.2.2.1 5)) + t)) 6 (((G.2.2.1 3 + G.2.2.1 7)) + 1)) 7 0) 14 ((G.2.2.1 0) + 1)) 15 ((G.2.2.1 1) + t)) 17 ((G.2.2.1 3) + 1)) 1 (1 - 0)) 20 = G.2.2.1 6 := (Eq.trans (eUp_ne (by decide)) (Eq.trans (eUp_ne (by decide)) (Eq.trans (eUp_ne (by decide)) (Eq.trans (eUp_ne (by decide)) (Eq.trans (eUp_ne (by decide)) (Eq.trans (eUp_ne (by decide)) (Eq.trans (eUp_ne (by decide)) (Eq.trans (eUp_ne (by decide)) (Eq.trans (eUp_ne (by omega)) (Eq.trans (eUp_ne (by omega)) (hr.2.2.2.2.2.2.2.2.2.1 6 (by decide)))))))))))); exact e9.trans (show (G.2.2.1 6 : Int) = gTls G t 6 by first | rfl | omega)) (by have e9 : (eUp (eUp (eUp (eUp (eUp (eUp (eUp (eUp (eUp (eUp (A 0) (22 + p).toNat l) (22 + G.2.2.2.1).toNat (((G.1 p.toNat) - t) - l)) 0 (G.2.2.2.1 + 1)) 3 (((G.2.2.1 1 + G.2.2.1 5)) + t)) 6 (((G.2.2.1 3 + G.2.2.1 7)) + 1)) 7 0) 14 ((G.2.2.1 0) + 1)) 15 ((G.2.2.1 1) + t)) 17 ((G.2.2.1 3) + 1)) 1 (1 - 0)) 21 = G.2.2.1 7 := (Eq.trans (eUp_ne (by decide)) (Eq.trans (eUp_ne (by decide)) (Eq.trans (eUp_ne (by decide)) (Eq.trans (eUp_ne (by decide)) (Eq.trans (eUp_ne (by decide)) (Eq.trans (eUp_ne (by decide)) (Eq.trans (eUp_ne (by decide)) (Eq.trans (eUp_ne (by decide)) (Eq.trans (eUp_ne (by omega)) (Eq.trans (eUp_ne (by omega)) (hr.2.2.2.2.2.2.2.2.2.1 7 (by decide)))))))))))); exact e9.trans (show (G.2.2.1 7 : Int) = gTls G t 7 by first | rfl | omega)), fun i hi => ?_⟩
    have hi : (i : Int) < G.2.2.2.1 + 1 := hi
    refine Eq.trans (eUp_ne (by omega)) ?_
    refine Eq.trans (eUp_ne (by omega)) ?_
    refine Eq.trans (eUp_ne (by omega)) ?_
    refine Eq.trans (eUp_ne (by omega)) ?_
    refine Eq.trans (eUp_ne (by omega)) ?_
    refine Eq.trans (eUp_ne (by omega)) ?_
    refine Eq.trans (eUp_ne (by omega)) ?_
    refine Eq.trans (eUp_ne (by omega)) ?_
    show eUp (eUp (A 0) (22 + p).toNat l) (22 + G.2.2.2.1).toNat (G.1 p.toNat - t - l) (22 + i) = eUp (eUp G.1 p.toNat l) G.2.2.2.1.toNat (G.1 p.toNat - t - l) i
    by_cases hq : i = G.2.2.2.1.toNat
    · rw [eUp_eq (by omega), eUp_eq hq]
    · rw [eUp_ne (by omega), eUp_ne hq]; exact (eUp_sh (by omega) i).trans (eUp_cg (hr.2.2.2.2.2.2.2.2.2.2 i (by omega)))
theorem m_takes_1 {d N : Nat} {h : eHp} {s : Nat → Int} {A : Nat → Nat → Int} (hm : mM h s A) (hN : 75 ≤ N) {c : Int} {G : eGd} (hr : rR G (A 0)) (hI : gI c G) {p t l : Int} (hM : gMay G (p, t, l)) (ht0 : G.2.2.2.2.1 = 1) : eSp (d + 2) eM_X7_takes [.ref 63, vI p, vI t, vI l] N h (eChg none N (fun h' => ∃ g', mD h s (mUp A 0 g') h' ∧ rR (gMake G (p, t, l)) g')) := by
  refine eSp_of [(0, .ref 63), (1, vI p), (2, vI t), (3, vI l)] rfl rfl ?_
  have hG := hI.1
  have hG9 := hG
  obtain ⟨g1, g2, g3, g4⟩ := hG9
  have hM9 := hM
  obtain ⟨hp9, ht9, hl9⟩ := hM9
  dsimp only at hp9 ht9 hl9
  have hml := gLets_iff.mp hl9
  obtain ⟨hl0, hl1, hl2, -⟩ := hml
  have hmp := hI.2.2.1 p.toNat (by omega)
  have hs40 := hI.2.2.2.1
  have hge := gSum_ge1 (F := G.1) (p := p.toNat) (n := G.2.2.2.1.toNat) (by omega) (fun i hi => (hI.2.2.1 i (by omega)).1)
  obtain ⟨d0, d1, d2, d3, d4, d5, d6, d7⟩ := gTls_1 (t := t) ht0
  have u3 := hI.2.2.2.2.1 3 (by decide)
  have u7 := hI.2.2.2.2.1 7 (by decide)
  refine eW_bipush 2 rfl rfl 14 rfl ?_
  refine eW_iconst 3 rfl rfl ?_
  refine eW_aload_n 4 rfl rfl rfl ?_
  refine eW_getfield 7 rfl rfl (Nat.ble_eq_true_of_le (by omega)) rfl hm.1 rfl ⟨rfl, fun _ h9 => nomatch h9⟩ ?_
  refine eW_iconst 8 rfl rfl ?_
  refine eW_iaload 9 rfl rfl 1 (Nat.ble_eq_true_of_le (by omega)) (show h 64 = .inl (0, 62, .inl (eIA (A 0))) from hm.2.1) (by omega) (by omega) (by unfold i32; omega) (congrArg Int32.ofInt (hr.2.1.trans ht0)) ?_
  refine eW_imul 10 rfl rfl ?_
  refine eW_iadd 11 rfl rfl ?_
  refine eW_istore 13 rfl rfl [(4, vI (14 + (4 * 1))), (0, .ref 63), (1, vI p), (2, vI t), (3, vI l)] rfl rfl ?_
  refine eW_aload_n 14 rfl rfl rfl ?_
  refine eW_iload_n 15 rfl rfl rfl ?_
  have hmbq1 := g3 p.toNat (by omega)
  refine eW_callV 18 [.ref 63, vI p] [] [vI (G.1 p.toNat)] rfl rfl rfl rfl (Nat.ble_eq_true_of_le (by omega)) hm.1 rfl rfl rfl (m_marbles (d := d + 0) hm hN hr hG (by omega)) rfl rfl ?_
  refine eW_iload_n 19 rfl rfl rfl ?_
  refine eW_isub 20 rfl rfl ?_
  refine eW_iload_n 21 rfl rfl rfl ?_
  refine eW_isub 22 rfl rfl ?_
  refine eW_istore 24 rfl rfl [(5, vI (((G.1 p.toNat) - t) - l)), (4, vI (14 + (4 * 1))), (0, .ref 63), (1, vI p), (2, vI t), (3, vI l)] rfl rfl ?_
  refine eW_aload_n 25 rfl rfl rfl ?_
  refine eW_getfield 28 rfl rfl (Nat.ble_eq_true_of_le (by omega)) rfl hm.1 rfl ⟨rfl, fun _ h9 => nomatch h9⟩ ?_
  refine eW_bipush 30 rfl rfl 22 rfl ?_
  refine eW_iload_n 31 rfl rfl rfl ?_
  refine eW_iadd 32 rfl rfl ?_
  refine eW_iload_n 33 rfl rfl rfl ?_
  refine eW_iastore 34 rfl rfl (Nat.ble_eq_true_of_le (by omega)) (show h 64 = .inl (0, 62, .inl (eIA (A 0))) from hm.2.1) (by omega) (by omega) (by unfold i32; omega) rfl ?_
  intro h2 eh2 oh2
  have hmh2 : mM h2 s (mUp A 0 (eUp (A 0) (22 + p).toNat l)) := mM_0 hm eh2 oh2 ⟨rfl, rfl, rfl, rfl, rfl, rfl, rfl, rfl⟩
  have frh2 : mFr h h2 := mFr_a (fun _ _ => rfl) (by decide) oh2
  refine eW_iload 36 rfl rfl rfl ?_
  refine eW_if_le 39 rfl rfl (by unfold i32; omega) (fun c3 => ?_) (fun c3 => ?_)
  · refine eW_iload_n 47 rfl rfl rfl ?_
    refine eW_if_ne 50 rfl rfl (by unfold i32; omega) (fun c4 => ?_) (fun c4 => ?_)
    · refine eW_aload_n 118 rfl rfl rfl ?_
      refine eW_getfield 121 rfl rfl (Nat.ble_eq_true_of_le (by omega)) rfl hmh2.1 rfl ⟨rfl, fun _ h9 => nomatch h9⟩ ?_
      refine eW_iconst 122 rfl rfl ?_
      refine eW_dup2 123 rfl rfl rfl ?_
      refine eW_iaload 124 rfl rfl ((G.2.2.1 1 + G.2.2.1 5)) (Nat.ble_eq_true_of_le (by omega)) (show h2 64 = .inl (0, 62, .inl (eIA (eUp (A 0) (22 + p).toNat l))) from hmh2.2.1) (by omega) (by omega) (by unfold i32; omega) (congrArg Int32.ofInt (Eq.trans (eUp_ne (by omega)) hr.2.2.2.1)) ?_
      refine eW_iload_n 125 rfl rfl rfl ?_
      refine eW_iadd 126 rfl rfl ?_
      refine eW_iastore 127 rfl rfl (Nat.ble_eq_true_of_le (by omega)) (show h2 64 = .inl (0, 62, .inl (eIA (eUp (A 0) (22 + p).toNat l))) from hmh2.2.1) (by omega) (by omega) (by unfold i32; omega) rfl ?_
      intro h5 eh5 oh5
      have hmh5 : mM h5 s (mUp A 0 (eUp (eUp (A 0) (22 + p).toNat l) 3 (((G.2.2.1 1 + G.2.2.1 5)) + t))) := mM_0 hmh2 eh5 oh5 ⟨rfl, rfl, rfl, rfl, rfl, rfl, rfl, rfl⟩
      have frh5 : mFr h h5 := mFr_a frh2 (by decide) oh5
      refine eW_aload_n 128 rfl rfl rfl ?_
      refine eW_getfield 131 rfl rfl (Nat.ble_eq_true_of_le (by omega)) rfl hmh5.1 rfl ⟨rfl, fun _ h9 => nomatch h9⟩ ?_
      refine eW_bipush 133 rfl rfl 6 rfl ?_
      refine eW_dup2 134 rfl rfl rfl ?_
      refine eW_iaload 135 rfl rfl ((G.2.2.1 3 + G.2.2.1 7)) (Nat.ble_eq_true_of_le (by omega)) (show h5 64 = .inl (0, 62, .inl (eIA (eUp (eUp (A 0) (22 + p).toNat l) 3 (((G.2.2.1 1 + G.2.2.1 5)) + t)))) from hmh5.2.1) (by omega) (by omega) (by unfold i32; omega) (congrArg Int32.ofInt (Eq.trans (eUp_ne (by decide)) (Eq.trans (eUp_ne (by omega)) hr.2.2.2.2.2.2.1))) ?_
      refine eW_iconst 136 rfl rfl ?_
      refine eW_iadd 137 rfl rfl ?_
      refine eW_iastore 138 rfl rfl (Nat.ble_eq_true_of_le (by omega)) (show h5 64 = .inl (0, 62, .inl (eIA (eUp (eUp (A 0) (22 + p).toNat l) 3 (((G.2.2.1 1 + G.2.2.1 5)) + t)))) from hmh5.2.1) (by omega) (by omega) (by unfold i32; omega) rfl ?_
      intro h6 eh6 oh6
      have hmh6 : mM h6 s (mUp A 0 (eUp (eUp (eUp (A 0) (22 + p).toNat l) 3 (((G.2.2.1 1 + G.2.2.1 5)) + t)) 6 (((G.2.2.1 3 + G.2.2.1 7)) + 1))) := mM_0 hmh5 eh6 oh6 ⟨rfl, rfl, rfl, rfl, rfl, rfl, rfl, rfl⟩
      have frh6 : mFr h h6 := mFr_a frh5 (by decide) oh6
      refine eW_aload_n 139 rfl rfl rfl ?_
      refine eW_getfield 142 rfl rfl (Nat.ble_eq_true_of_le (by omega)) rfl hmh6.1 rfl ⟨rfl, fun _ h9 => nomatch h9⟩ ?_
      refine eW_bipush 144 rfl rfl 7 rfl ?_
      refine eW_aload_n 145 rfl rfl rfl ?_
      refine eW_getfield 148 rfl rfl (Nat.ble_eq_true_of_le (by omega)) rfl hmh6.1 rfl ⟨rfl, fun _ h9 => nomatch h9⟩ ?_
      refine eW_iconst 149 rfl rfl ?_
      refine eW_iaload 150 rfl rfl 1 (Nat.ble_eq_true_of_le (by omega)) (show h6 64 = .inl (0, 62, .inl (eIA (eUp (eUp (eUp (A 0) (22 + p).toNat l) 3 (((G.2.2.1 1 + G.2.2.1 5)) + t)) 6 (((G.2.2.1 3 + G.2.2.1 7)) + 1)))) from hmh6.2.1) (by omega) (by omega) (by unfold i32; omega) (congrArg Int32.ofInt (Eq.trans (eUp_ne (by decide)) (Eq.trans (eUp_ne (by decide)) (Eq.trans (eUp_ne (by omega)) (hr.2.1.trans ht0))))) ?_
      refine eW_iastore 151 rfl rfl (Nat.ble_eq_true_of_le (by omega)) (show h6 64 = .inl (0, 62, .inl (eIA (eUp (eUp (eUp (A 0) (22 + p).toNat l) 3 (((G.2.2.1 1 + G.2.2.1 5)) + t)) 6 (((G.2.2.1 3 + G.2.2.1 7)) + 1)))) from hmh6.2.1) (by omega) (by omega) (by unfold i32; omega) rfl ?_
      intro h7 eh7 oh7
      have hmh7 : mM h7 s (mUp A 0 (eUp (eUp (eUp (eUp (A 0) (22 + p).toNat l) 3 (((G.2.2.1 1 + G.2.2.1 5)) + t)) 6 (((G.2.2.1 3 + G.2.2.1 7)) + 1)) 7 1)) := mM_0 hmh6 eh7 oh7 ⟨rfl, rfl, rfl, rfl, rfl, rfl, rfl, rfl⟩
      have frh7 : mFr h h7 := mFr_a frh6 (by decide) oh7
      refine eW_aload_n 152 rfl rfl rfl ?_
      refine eW_getfield 155 rfl rfl (Nat.ble_eq_true_of_le (by omega)) rfl hmh7.1 rfl ⟨rfl, fun _ h9 => nomatch h9⟩ ?_
      refine eW_iload 157 rfl rfl rfl ?_
      refine eW_dup2 158 rfl rfl rfl ?_
      refine eW_iaload 159 rfl rfl (G.2.2.1 4) (Nat.ble_eq_true_of_le (by omega)) (show h7 64 = .inl (0, 62, .inl (eIA (eUp (eUp (eUp (eUp (A 0) (22 + p).toNat l) 3 (((G.2.2.1 1 + G.2.2.1 5)) + t)) 6 (((G.2.2.1 3 + G.2.2.1 7)) + 1)) 7 1))) from hmh7.2.1) (by omega) (by omega) (by unfold i32; omega) (congrArg Int32.ofInt (Eq.trans (eUp_ne (by decide)) (Eq.trans (eUp_ne (by decide)) (Eq.trans (eUp_ne (by decide)) (Eq.trans (eUp_ne (by omega)) (hr.2.2.2.2.2.2.2.2.2.1 4 (by decide))))))) ?_
      refine eW_iconst 160 rfl rfl ?_
      refine eW_iadd 161 rfl rfl ?_
      refine eW_iastore 162 rfl rfl (Nat.ble_eq_true_of_le (by omega)) (show h7 64 = .inl (0, 62, .inl (eIA (eUp (eUp (eUp (eUp (A 0) (22 + p).toNat l) 3 (((G.2.2.1 1 + G.2.2.1 5)) + t)) 6 (((G.2.2.1 3 + G.2.2.1 7)) + 1)) 7 1))) from hmh7.2.1) (by omega) (by omega) (by unfold i32; omega) rfl ?_
      intro h8 eh8 oh8
      have hmh8 : mM h8 s (mUp A 0 (eUp (eUp (eUp (eUp (eUp (A 0) (22 + p).toNat l) 3 (((G.2.2.1 1 + G.2.2.1 5)) + t)) 6 (((G.2.2.1 3 + G.2.2.1 7)) + 1)) 7 1) 18 ((G.2.2.1 4) + 1))) := mM_0 hmh7 eh8 oh8 ⟨rfl, rfl, rfl, rfl, rfl, rfl, rfl, rfl⟩
      have frh8 : mFr h h8 := mFr_a frh7 (by decide) oh8
      refine eW_aload_n 163 rfl rfl rfl ?_
      refine eW_getfield 166 rfl rfl (Nat.ble_eq_true_of_le (by omega)) rfl hmh8.1 rfl ⟨rfl, fun _ h9 => nomatch h9⟩ ?_
      refine eW_iload 168 rfl rfl rfl ?_
      refine eW_iconst 169 rfl rfl ?_
      refine eW_iadd 170 rfl rfl ?_
      refine eW_dup2 171 rfl rfl rfl ?_
      refine eW_iaload 172 rfl rfl (G.2.2.1 5) (Nat.ble_eq_true_of_le (by omega)) (show h8 64 = .inl (0, 62, .inl (eIA (eUp (eUp (eUp (eUp (eUp (A 0) (22 + p).toNat l) 3 (((G.2.2.1 1 + G.2.2.1 5)) + t)) 6 (((G.2.2.1 3 + G.2.2.1 7)) + 1)) 7 1) 18 ((G.2.2.1 4) + 1)))) from hmh8.2.1) (by omega) (by omega) (by unfold i32; omega) (congrArg Int32.ofInt (Eq.trans (eUp_ne (by decide)) (Eq.trans (eUp_ne (by decide)) (Eq.trans (eUp_ne (by decide)) (Eq.trans (eUp_ne (by decide)) (Eq.trans (eUp_ne (by omega)) (hr.2.2.2.2.2.2.2.2.2.1 5 (by decide)))))))) ?_
      refine eW_iload_n 173 rfl rfl rfl ?_
      refine eW_iadd 174 rfl rfl ?_
      refine eW_iastore 175 rfl rfl (Nat.ble_eq_true_of_le (by omega)) (show h8 64 = .inl (0, 62, .inl (eIA (eUp (eUp (eUp (eUp (eUp (A 0) (22 + p).toNat l) 3 (((G.2.2.1 1 + G.2.2.1 5)) + t)) 6 (((G.2.2.1 3 + G.2.2.1 7)) + 1)) 7 1) 18 ((G.2.2.1 4) + 1)))) from hmh8.2.1) (by omega) (by omega) (by unfold i32; omega) rfl ?_
      intro h9 eh9 oh9
      have hmh9 : mM h9 s (mUp A 0 (eUp (eUp (eUp (eUp (eUp (eUp (A 0) (22 + p).toNat l) 3 (((G.2.2.1 1 + G.2.2.1 5)) + t)) 6 (((G.2.2.1 3 + G.2.2.1 7)) + 1)) 7 1) 18 ((G.2.2.1 4) + 1)) 19 ((G.2.2.1 5) + t))) := mM_0 hmh8 eh9 oh9 ⟨rfl, rfl, rfl, rfl, rfl, rfl, rfl, rfl⟩
      have frh9 : mFr h h9 := mFr_a frh8 (by decide) oh9
      refine eW_aload_n 176 rfl rfl rfl ?_
      refine eW_getfield 179 rfl rfl (Nat.ble_eq_true_of_le (by omega)) rfl hmh9.1 rfl ⟨rfl, fun _ h9 => nomatch h9⟩ ?_
      refine eW_iload 181 rfl rfl rfl ?_
      refine eW_iconst 182 rfl rfl ?_
      refine eW_iadd 183 rfl rfl ?_
      refine eW_dup2 184 rfl rfl rfl ?_
      refine eW_iaload 185 rfl rfl (G.2.2.1 7) (Nat.ble_eq_true_of_le (by omega)) (show h9 64 = .inl (0, 62, .inl (eIA (eUp (eUp (eUp (eUp (eUp (eUp (A 0) (22 + p).toNat l) 3 (((G.2.2.1 1 + G.2.2.1 5)) + t)) 6 (((G.2.2.1 3 + G.2.2.1 7)) + 1)) 7 1) 18 ((G.2.2.1 4) + 1)) 19 ((G.2.2.1 5) + t)))) from hmh9.2.1) (by omega) (by omega) (by unfold i32; omega) (congrArg Int32.ofInt (Eq.trans (eUp_ne (by decide)) (Eq.trans (eUp_ne (by decide)) (Eq.trans (eUp_ne (by decide)) (Eq.trans (eUp_ne (by decide)) (Eq.trans (eUp_ne (by decide)) (Eq.trans (eUp_ne (by omega)) (hr.2.2.2.2.2.2.2.2.2.1 7 (by decide))))))))) ?_
      refine eW_iconst 186 rfl rfl ?_
      refine eW_iadd 187 rfl rfl ?_
      refine eW_iastore 188 rfl rfl (Nat.ble_eq_true_of_le (by omega)) (show h9 64 = .inl (0, 62, .inl (eIA (eUp (eUp (eUp (eUp (eUp (eUp (A 0) (22 + p).toNat l) 3 (((G.2.2.1 1 + G.2.2.1 5)) + t)) 6 (((G.2.2.1 3 + G.2.2.1 7)) + 1)) 7 1) 18 ((G.2.2.1 4) + 1)) 19 ((G.2.2.1 5) + t)))) from hmh9.2.1) (by omega) (by omega) (by unfold i32; omega) rfl ?_
      intro h10 eh10 oh10
      have hmh10 : mM h10 s (mUp A 0 (eUp (eUp (eUp (eUp (eUp (eUp (eUp (A 0) (22 + p).toNat l) 3 (((G.2.2.1 1 + G.2.2.1 5)) + t)) 6 (((G.2.2.1 3 + G.2.2.1 7)) + 1)) 7 1) 18 ((G.2.2.1 4) + 1)) 19 ((G.2.2.1 5) + t)) 21 ((G.2.2.1 7) + 1))) := mM_0 hmh9 eh10 oh10 ⟨rfl, rfl, rfl, rfl, rfl, rfl, rfl, rfl⟩
      have frh10 : mFr h h10 := mFr_a frh9 (by decide) oh10
      refine eW_aload_n 189 rfl rfl rfl ?_
      refine eW_getfield 192 rfl rfl (Nat.ble_eq_true_of_le (by omega)) rfl hmh10.1 rfl ⟨rfl, fun _ h9 => nomatch h9⟩ ?_
      refine eW_iconst 193 rfl rfl ?_
      refine eW_iconst 194 rfl rfl ?_
      refine eW_aload_n 195 rfl rfl rfl ?_
      refine eW_getfield 198 rfl rfl (Nat.ble_eq_true_of_le (by omega)) rfl hmh10.1 rfl ⟨rfl, fun _ h9 => nomatch h9⟩ ?_
      refine eW_iconst 199 rfl rfl ?_
      refine eW_iaload 200 rfl rfl 1 (Nat.ble_eq_true_of_le (by omega)) (show h10 64 = .inl (0, 62, .inl (eIA (eUp (eUp (eUp (eUp (eUp (eUp (eUp (A 0) (22 + p).toNat l) 3 (((G.2.2.1 1 + G.2.2.1 5)) + t)) 6 (((G.2.2.1 3 + G.2.2.1 7)) + 1)) 7 1) 18 ((G.2.2.1 4) + 1)) 19 ((G.2.2.1 5) + t)) 21 ((G.2.2.1 7) + 1)))) from hmh10.2.1) (by omega) (by omega) (by unfold i32; omega) (congrArg Int32.ofInt (Eq.trans (eUp_ne (by decide)) (Eq.trans (eUp_ne (by decide)) (Eq.trans (eUp_ne (by decide)) (Eq.trans (eUp_ne (by decide)) (Eq.trans (eUp_ne (by decide)) (Eq.trans (eUp_ne (by decide)) (Eq.trans (eUp_ne (by omega)) (hr.2.1.trans ht0))))))))) ?_
      refine eW_isub 201 rfl rfl ?_
      refine eW_iastore 202 rfl rfl (Nat.ble_eq_true_of_le (by omega)) (show h10 64 = .inl (0, 62, .inl (eIA (eUp (eUp (eUp (eUp (eUp (eUp (eUp (A 0) (22 + p).toNat l) 3 (((G.2.2.1 1 + G.2.2.1 5)) + t)) 6 (((G.2.2.1 3 + G.2.2.1 7)) + 1)) 7 1) 18 ((G.2.2.1 4) + 1)) 19 ((G.2.2.1 5) + t)) 21 ((G.2.2.1 7) + 1)))) from hmh10.2.1) (by omega) (by omega) (by unfold i32; omega) rfl ?_
      intro h11 eh11 oh11
      have hmh11 : mM h11 s (mUp A 0 (eUp (eUp (eUp (eUp (eUp (eUp (eUp (eUp (A 0) (22 + p).toNat l) 3 (((G.2.2.1 1 + G.2.2.1 5)) + t)) 6 (((G.2.2.1 3 + G.2.2.1 7)) + 1)) 7 1) 18 ((G.2.2.1 4) + 1)) 19 ((G.2.2.1 5) + t)) 21 ((G.2.2.1 7) + 1)) 1 (1 - 1))) := mM_0 hmh10 eh11 oh11 ⟨rfl, rfl, rfl, rfl, rfl, rfl, rfl, rfl⟩
      have frh11 : mFr h h11 := mFr_a frh10 (by decide) oh11
      refine eW_ret rfl rfl ?_
      refine ⟨_, rfl, _, ⟨hmh11, frh11⟩, ?_⟩
      have hM9 : gMake G (p, t, l) = (eUp G.1 p.toNat l, G.2.1, gTls G t, G.2.2.2.1, 1 - G.2.2.2.2.1, G.2.2.2.2.2) := by
        unfold gMake gCut
        dsimp only
        rw [decide_eq_false (by omega : ¬ 0 < G.1 p.toNat - t - l), decide_eq_false (by omega : ¬ l = 0)]
      have hw := gWin_c (gI_make hI hM)
      rw [hM9] at hw
      dsimp only at hw
      rw [hM9]
      refine ⟨(Eq.trans (eUp_ne (by decide)) (Eq.trans (eUp_ne (by decide)) (Eq.trans (eUp_ne (by decide)) (Eq.trans (eUp_ne (by decide)) (Eq.trans (eUp_ne (by decide)) (Eq.trans (eUp_ne (by decide)) (Eq.trans (eUp_ne (by decide)) (Eq.trans (eUp_ne (by omega)) hr.1)))))))), (by rw [ht0]; exact (eUp_eq rfl)), (Eq.trans (eUp_ne (by decide)) (Eq.trans (eUp_ne (by decide)) (Eq.trans (eUp_ne (by decide)) (Eq.trans (eUp_ne (by decide)) (Eq.trans (eUp_ne (by decide)) (Eq.trans (eUp_ne (by decide)) (Eq.trans (eUp_ne (by decide)) (Eq.trans (eUp_ne (by omega)) hr.2.2.1)))))))), (by have e9 : (eUp (eUp (eUp (eUp (eUp (eUp (eUp (eUp (A 0) (22 + p).toNat l) 3 (((G.2.2.1 1 + G.2.2.1 5)) + t)) 6 (((G.2.2.1 3 + G.2.2.1 7)) + 1)) 7 1) 18 ((G.2.2.1 4) + 1)) 19 ((G.2.2.1 5) + t)) 21 ((G.2.2.1 7) + 1)) 1 (1 - 1)) 3 = ((G.2.2.1 1 + G.2.2.1 5)) + t := (Eq.trans (eUp_ne (by decide)) (Eq.trans (eUp_ne (by decide)) (Eq.trans (eUp_ne (by decide)) (Eq.trans (eUp_ne (by decide)) (Eq.trans (eUp_ne (by decide)) (Eq.trans (eUp_ne (by decide)) (eUp_eq rfl))))))); exact e9.trans (show (((G.2.2.1 1 + G.2.2.1 5)) + t : Int) = gTls G t 1 + gTls G t 5 by first | rfl | omega)), (Eq.trans (eUp_ne (by decide)) (Eq.trans (eUp_ne (by decide)) (Eq.trans (eUp_ne (by decide)) (Eq.trans (eUp_ne (by decide)) (Eq.trans (eUp_ne (by decide)) (Eq.trans (eUp_ne (by decide)) (Eq.trans (eUp_ne (by decide)) (Eq.trans (eUp_ne (by omega)) hr.2.2.2.2.1)))))))), (Eq.trans (eUp_ne (by decide)) (Eq.trans (eUp_ne (by decide)) (Eq.trans (eUp_ne (by decide)) (Eq.trans (eUp_ne (by decide)) (Eq.trans (eUp_ne (by decide)) (Eq.trans (eUp_ne (by decide)) (Eq.trans (eUp_ne (by decide)) (Eq.trans (eUp_ne (by omega)) hr.2.2.2.2.2.1)))))))), (by have e9 : (eUp (eUp (eUp (eUp (eUp (eUp (eUp (eUp (A 0) (22 + p).toNat l) 3 (((G.2.2.1 1 + G.2.2.1 5)) + t)) 6 (((G.2.2.1 3 + G.2.2.1 7)) + 1)) 7 1) 18 ((G.2.2.1 4) + 1)) 19 ((G.2.2.1 5) + t)) 21 ((G.2.2.1 7) + 1)) 1 (1 - 1)) 6 = ((G.2.2.1 3 + G.2.2.1 7)) + 1 := (Eq.trans (eUp_ne (by decide)) (Eq.trans (eUp_ne (by decide)) (Eq.trans (eUp_ne (by decide)) (Eq.trans (eUp_ne (by decide)) (Eq.trans (eUp_ne (by decide)) (eUp_eq rfl)))))); exact e9.trans (show (((G.2.2.1 3 + G.2.2.1 7)) + 1 : Int) = gTls G t 3 + gTls G t 7 by first | rfl | omega)), (by have e9 : (eUp (eUp (eUp (eUp (eUp (eUp (eUp (eUp (A 0) (22 + p).toNat l) 3 (((G.2.2.1 1 + G.2.2.1 5)) + t)) 6 (((G.2.2.1 3 + G.2.2.1 7)) + 1)) 7 1) 18 ((G.2.2.1 4) + 1)) 19 ((G.2.2.1 5) + t)) 21 ((G.2.2.1 7) + 1)) 1 (1 - 1)) 7 = 1 := (Eq.trans (eUp_ne (by decide)) (Eq.trans (eUp_ne (by decide)) (Eq.trans (eUp_ne (by decide)) (Eq.trans (eUp_ne (by decide)) (eUp_eq rfl))))); exact e9.trans (show (1 : Int) = gWin (eUp G.1 p.toNat l, G.2.1, gTls G t, G.2.2.2.1, 1 - G.2.2.2.2.1, G.2.2.2.2.2) by first | rfl | omega)), eL6 (Eq.trans (eUp_ne (by decide)) (Eq.trans (eUp_ne (by decide)) (Eq.trans (eUp_ne (by decide)) (Eq.trans (eUp_ne (by decide)) (Eq.trans (eUp_ne (by decide)) (Eq.trans (eUp_ne (by decide)) (Eq.trans (eUp_ne (by decide)) (Eq.trans (eUp_ne (by omega)) (hr.2.2.2.2.2.2.2.2.1 0 (by decide)))))))))) (Eq.trans (eUp_ne (by decide)) (Eq.trans (eUp_ne (by decide)) (Eq.trans (eUp_ne (by decide)) (Eq.trans (eUp_ne (by decide)) (Eq.trans (eUp_ne (by decide)) (Eq.trans (eUp_ne (by decide)) (Eq.trans (eUp_ne (by decide)) (Eq.trans (eUp_ne (by omega)) (hr.2.2.2.2.2.2.2.2.1 1 (by decide)))))))))) (Eq.trans (eUp_ne (by decide)) (Eq.trans (eUp_ne (by decide)) (Eq.trans (eUp_ne (by decide)) (Eq.trans (eUp_ne (by decide)) (Eq.trans (eUp_ne (by decide)) (Eq.trans (eUp_ne (by decide)) (Eq.trans (eUp_ne (by decide)) (Eq.trans (eUp_ne (by omega)) (hr.2.2.2.2.2.2.2.2.1 2 (by decide)))))))))) (Eq.trans (eUp_ne (by decide)) (Eq.trans (eUp_ne (by decide)) (Eq.trans (eUp_ne (by decide)) (Eq.trans (eUp_ne (by decide)) (Eq.trans (eUp_ne (by decide)) (Eq.trans (eUp_ne (by decide)) (Eq.trans (eUp_ne (by decide)) (Eq.trans (eUp_ne (by omega)) (hr.2.2.2.2.2.2.2.2.1 3 (by decide)))))))))) (Eq.trans (eUp_ne (by decide)) (Eq.trans (eUp_ne (by decide)) (Eq.trans (eUp_ne (by decide)) (Eq.trans (eUp_ne (by decide)) (Eq.trans (eUp_ne (by decide)) (Eq.trans (eUp_ne (by decide)) (Eq.trans (eUp_ne (by decide)) (Eq.trans (eUp_ne (by omega)) (hr.2.2.2.2.2.2.2.2.1 4 (by decide)))))))))) (Eq.trans (eUp_ne (by decide)) (Eq.trans (eUp_ne (by decide)) (Eq.trans (eUp_ne (by decide)) (Eq.trans (eUp_ne (by decide)) (Eq.trans (eUp_ne (by decide)) (Eq.trans (eUp_ne (by decide)) (Eq.trans (eUp_ne (by decide)) (Eq.trans (eUp_ne (by omega)) (hr.2.2.2.2.2.2.2.2.1 5 (by decide)))))))))), eL8 (by have e9 : (eUp (eUp (eUp (eUp (eUp (eUp (eUp (eUp (A 0) (22 + p).toNat l) 3 (((G.2.2.1 1 + G.2.2.1 5)) + t)) 6 (((G.2.2.1 3 + G.2.2.1 7)) + 1)) 7 1) 18 ((G.2.2.1 4) + 1)) 19 ((G.2.2.1 5) + t)) 21 ((G.2.2.1 7) + 1)) 1 (1 - 1)) 14 = G.2.2.1 0 := (Eq.trans (eUp_ne (by decide)) (Eq.trans (eUp_ne (by decide)) (Eq.trans (eUp_ne (by decide)) (Eq.trans (eUp_ne (by decide)) (Eq.trans (eUp_ne (by decide)) (Eq.trans (eUp_ne (by decide)) (Eq.trans (eUp_ne (by decide)) (Eq.trans (eUp_ne (by omega)) (hr.2.2.2.2.2.2.2.2.2.1 0 (by decide)))))))))); exact e9.trans (show (G.2.2.1 0 : Int) = gTls G t 0 by first | rfl | omega)) (by have e9 : (eUp (eUp (eUp (eUp (eUp (eUp (eUp (eUp (A 0) (22 + p).toNat l) 3 (((G.2.2.1 1 + G.2.2.1 5)) + t)) 6 (((G.2.2.1 3 + G.2.2.1 7)) + 1)) 7 1) 18 ((G.2.2.1 4) + 1)) 19 ((G.2.2.1 5) + t)) 21 ((G.2.2.1 7) + 1)) 1 (1 - 1)) 15 = G.2.2.1 1 := (Eq.trans (eUp_ne (by decide)) (Eq.trans (eUp_ne (by decide)) (Eq.trans (eUp_ne (by decide)) (Eq.trans (eUp_ne (by decide)) (Eq.trans (eUp_ne (by decide)) (Eq.trans (eUp_ne (by decide)) (Eq.trans (eUp_ne (by decide)) (Eq.trans (eUp_ne (by omega)) (hr.2.2.2.2.2.2.2.2.2.1 1 (by decide)))))))))); exact e9.trans (show (G.2.2.1 1 : Int) = gTls G t 1 by first | rfl | omega)) (by have e9 : (eUp (eUp (eUp (eUp (eUp (eUp (eUp (eUp (A 0) (22 + p).toNat l) 3 (((G.2.2.1 1 + G.2.2.1 5)) + t)) 6 (((G.2.2.1 3 + G.2.2.1 7)) + 1)) 7 1) 18 ((G.2.2.1 4) + 1)) 19 ((G.2.2.1 5) + t)) 21 ((G.2.2.1 7) + 1)) 1 (1 - 1)) 16 = G.2.2.1 2 := (Eq.trans (eUp_ne (by decide)) (Eq.trans (eUp_ne (by decide)) (Eq.trans (eUp_ne (by decide)) (Eq.trans (eUp_ne (by decide)) (Eq.trans (eUp_ne (by decide)) (Eq.trans (eUp_ne (by decide)) (Eq.trans (eUp_ne (by decide)) (Eq.trans (eUp_ne (by omega)) (hr.2.2.2.2.2.2.2.2.2.1 2 (by decide)))))))))); exact e9.trans (show (G.2.2.1 2 : Int) = gTls G t 2 by first | rfl | omega)) (by have e9 : (eUp (eUp (eUp (eUp (eUp (eUp (eUp (eUp (A 0) (22 + p).toNat l) 3 (((G.2.2.1 1 + G.2.2.1 5)) + t)) 6 (((G.2.2.1 3 + G.2.2.1 7)) + 1)) 7 1) 18 ((G.2.2.1 4) + 1)) 19 ((G.2.2.1 5) + t)) 21 ((G.2.2.1 7) + 1)) 1 (1 - 1)) 17 = G.2.2.1 3 := (Eq.trans (eUp_ne (by decide)) (Eq.trans (eUp_ne (by decide)) (Eq.trans (eUp_ne (by decide)) (Eq.trans (eUp_ne (by decide)) (Eq.trans (eUp_ne (by decide)) (Eq.trans (eUp_ne (by decide)) (Eq.trans (eUp_ne (by decide)) (Eq.trans (eUp_ne (by omega)) (hr.2.2.2.2.2.2.2.2.2.1 3 (by decide)))))))))); exact e9.trans (show (G.2.2.1 3 : Int) = gTls G t 3 by first | rfl | omega)) (by have e9 : (eUp (eUp (eUp (eUp (eUp (eUp (eUp (eUp (A 0) (22 + p).toNat l) 3 (((G.2.2.1 1 + G.2.2.1 5)) + t)) 6 (((G.2.2.1 3 + G.2.2.1 7)) + 1)) 7 1) 18 ((G.2.2.1 4) + 1)) 19 ((G.2.2.1 5) + t)) 21 ((G.2.2.1 7) + 1)) 1 (1 - 1)) 18 = (G.2.2.1 4) + 1 := (Eq.trans (eUp_ne (by decide)) (Eq.trans (eUp_ne (by decide)) (Eq.trans (eUp_ne (by decide)) (eUp_eq rfl)))); exact e9.trans (show ((G.2.2.1 4) + 1 : Int) = gTls G t 4 by first | rfl | omega)) (by have e9 : (eUp (eUp (eUp (eUp (eUp (eUp (eUp (eUp (A 0) (22 + p).toNat l) 3 (((G.2.2.1 1 + G.2.2.1 5)) + t)) 6 (((G.2.2.1 3 + G.2.2.1 7)) + 1)) 7 1) 18 ((G.2.2.1 4) + 1)) 19 ((G.2.2.1 5) + t)) 21 ((G.2.2.1 7) + 1)) 1 (1 - 1)) 19 = (G.2.2.1 5) + t := (Eq.trans (eUp_ne (by decide)) (Eq.trans (eUp_ne (by decide)) (eUp_eq rfl))); exact e9.trans (show ((G.2.2.1 5) + t : Int) = gTls G t 5 by first | rfl | omega)) (by have e9 : (eUp (eUp (eUp (eUp (eUp (eUp (eUp (eUp (A 0) (22 + p).toNat l) 3 (((G.2.2.1 1 + G.2.2.1 5)) + t)) 6 (((G.2.2.1 3 + G.2.2.1 7)) + 1)) 7 1) 18 ((G.2.2.1 4) + 1)) 19 ((G.2.2.1 5) + t)) 21 ((G.2.2.1 7) + 1)) 1 (1 - 1)) 20 = G.2.2.1 6 := (Eq.trans (eUp_ne (by decide)) (Eq.trans (eUp_ne (by decide)) (Eq.trans (eUp_ne (by decide)) (Eq.trans (eUp_ne (by decide)) (Eq.trans (eUp_ne (by decide)) (Eq.trans (eUp_ne (by decide)) (Eq.trans (eUp_ne (by decide)) (Eq.trans (eUp_ne (by omega)) (hr.2.2.2.2.2.2.2.2.2.1 6 (by decide)))))))))); exact e9.trans (show (G.2.2.1 6 : Int) = gTls G t 6 by first | rfl | omega)) (by have e9 : (eUp (eUp (eUp (eUp (eUp (eUp (eUp (eUp (A 0) (22 + p).toNat l) 3 (((G.2.2.1 1 + G.2.2.1 5)) + t)) 6 (((G.2.2.1 3 + G.2.2.1 7)) + 1)) 7 1) 18 ((G.2.2.1 4) + 1)) 19 ((G.2.2.1 5) + t)) 21 ((G.2.2.1 7) + 1)) 1 (1 - 1)) 21 = (G.2.2.1 7) + 1 := (Eq.trans (eUp_ne (by decide)) (eUp_eq rfl)); exact e9.trans (show ((G.2.2.1 7) + 1 : Int) = gTls G t 7 by first | rfl | omega)), fun i hi => ?_⟩
      have hi : (i : Int) < G.2.2.2.1 := hi
      refine Eq.trans (eUp_ne (by omega)) ?_
      refine Eq.trans (eUp_ne (by omega)) ?_
      refine Eq.trans (eUp_ne (by omega)) ?_
      refine Eq.trans (eUp_ne (by omega)) ?_
      refine Eq.trans (eUp_ne (by omega)) ?_
      refine Eq.trans (eUp_ne (by omega)) ?_
      refine Eq.trans (eUp_ne (by omega)) ?_
      exact (eUp_sh (by omega) i).trans (eUp_cg (hr.2.2.2.2.2.2.2.2.2.2 i (by omega)))
    · refine eW_aload_n 51 rfl rfl rfl ?_
      refine eW_getfield 54 rfl rfl (Nat.ble_eq_true_of_le (by omega)) rfl hmh2.1 rfl ⟨rfl, fun _ h9 => nomatch h9⟩ ?_
      refine eW_iconst 55 rfl rfl ?_
      refine eW_dup2 56 rfl rfl rfl ?_
      refine eW_iaload 57 rfl rfl G.2.2.2.1 (Nat.ble_eq_true_of_le (by omega)) (show h2 64 = .inl (0, 62, .inl (eIA (eUp (A 0) (22 + p).toNat l))) from hmh2.2.1) (by omega) (by omega) (by unfold i32; omega) (congrArg Int32.ofInt (Eq.trans (eUp_ne (by omega)) hr.1)) ?_
      refine eW_iconst 58 rfl rfl ?_
      refine eW_isub 59 rfl rfl ?_
      refine eW_iastore 60 rfl rfl (Nat.ble_eq_true_of_le (by omega)) (show h2 64 = .inl (0, 62, .inl (eIA (eUp (A 0) (22 + p).toNat l))) from hmh2.2.1) (by omega) (by omega) (by unfold i32; omega) rfl ?_
      intro h12 eh12 oh12
      have hmh12 : mM h12 s (mUp A 0 (eUp (eUp (A 0) (22 + p).toNat l) 0 (G.2.2.2.1 - 1))) := mM_0 hmh2 eh12 oh12 ⟨rfl, rfl, rfl, rfl, rfl, rfl, rfl, rfl⟩
      have frh12 : mFr h h12 := mFr_a frh2 (by decide) oh12
      refine eW_iload_n 61 rfl rfl rfl ?_
      refine eW_istore 63 rfl rfl [(6, vI p), (5, vI (((G.1 p.toNat) - t) - l)), (4, vI (14 + (4 * 1))), (0, .ref 63), (1, vI p), (2, vI t), (3, vI l)] rfl rfl ?_
      refine eW_re [(0, .ref 63), (1, vI p), (2, vI t), (3, vI l), (4, vI (14 + (4 * 1))), (5, vI (((G.1 p.toNat) - t) - l)), (6, vI p)] rfl rfl (List.forall_mem_cons.mpr ⟨rfl, List.forall_mem_cons.mpr ⟨rfl, List.forall_mem_cons.mpr ⟨rfl, List.forall_mem_cons.mpr ⟨rfl, List.forall_mem_cons.mpr ⟨rfl, List.forall_mem_cons.mpr ⟨rfl, List.forall_mem_cons.mpr ⟨rfl, fun _ h => absurd h List.not_mem_nil⟩⟩⟩⟩⟩⟩⟩) (List.forall_mem_cons.mpr ⟨Or.inl rfl, List.forall_mem_cons.mpr ⟨Or.inl rfl, List.forall_mem_cons.mpr ⟨Or.inl rfl, List.forall_mem_cons.mpr ⟨Or.inl rfl, List.forall_mem_cons.mpr ⟨Or.inl rfl, List.forall_mem_cons.mpr ⟨Or.inl rfl, List.forall_mem_cons.mpr ⟨Or.inl rfl, fun _ h => absurd h List.not_mem_nil⟩⟩⟩⟩⟩⟩⟩) ?_
      have hg0 : (eUp (eUp (A 0) (22 + p).toNat l) 0 (G.2.2.2.1 - 1)) 0 = G.2.2.2.1 - 1 := (eUp_eq rfl)
      refine m_takes_l (h0 := h) (g1 := eUp (eUp (A 0) (22 + p).toNat l) 0 (G.2.2.2.1 - 1)) (n := G.2.2.2.1 - 1) hN (by omega) (by omega) hg0 _ p (eUp (eUp (A 0) (22 + p).toNat l) 0 (G.2.2.2.1 - 1)) h12 (Int.self_le_toNat _) (by omega) hmh12 frh12 (fun _ _ => rfl) (fun i hi => ?_) (fun g2 h13 r1 r2 fj fm => ?_)
      · rw [gDel_0 _ (by omega)]
      refine eW_aload_n 103 rfl rfl rfl ?_
      refine eW_getfield 106 rfl rfl (Nat.ble_eq_true_of_le (by omega)) rfl r1.1 rfl ⟨rfl, fun _ h9 => nomatch h9⟩ ?_
      refine eW_bipush 108 rfl rfl 22 rfl ?_
      refine eW_aload_n 109 rfl rfl rfl ?_
      refine eW_getfield 112 rfl rfl (Nat.ble_eq_true_of_le (by omega)) rfl r1.1 rfl ⟨rfl, fun _ h9 => nomatch h9⟩ ?_
      refine eW_iconst 113 rfl rfl ?_
      refine eW_iaload 114 rfl rfl (G.2.2.2.1 - 1) (Nat.ble_eq_true_of_le (by omega)) (show h13 64 = .inl (0, 62, .inl (eIA g2)) from r1.2.1) (by omega) (by omega) (by unfold i32; omega) (congrArg Int32.ofInt (Eq.trans (fj 0 (by decide)) hg0)) ?_
      refine eW_iadd 115 rfl rfl ?_
      refine eW_iconst 116 rfl rfl ?_
      refine eW_iastore 117 rfl rfl (Nat.ble_eq_true_of_le (by omega)) (show h13 64 = .inl (0, 62, .inl (eIA g2)) from r1.2.1) (by omega) (by omega) (by unfold i32; omega) rfl ?_
      intro h14 eh14 oh14
      have hmh14 : mM h14 s (mUp A 0 (eUp g2 (22 + (G.2.2.2.1 - 1)).toNat 0)) := mM_0 r1 eh14 oh14 ⟨rfl, rfl, rfl, rfl, rfl, rfl, rfl, rfl⟩
      have frh14 : mFr h h14 := mFr_a r2 (by decide) oh14
      refine eW_aload_n 118 rfl rfl rfl ?_
      refine eW_getfield 121 rfl rfl (Nat.ble_eq_true_of_le (by omega)) rfl hmh14.1 rfl ⟨rfl, fun _ h9 => nomatch h9⟩ ?_
      refine eW_iconst 122 rfl rfl ?_
      refine eW_dup2 123 rfl rfl rfl ?_
      refine eW_iaload 124 rfl rfl ((G.2.2.1 1 + G.2.2.1 5)) (Nat.ble_eq_true_of_le (by omega)) (show h14 64 = .inl (0, 62, .inl (eIA (eUp g2 (22 + (G.2.2.2.1 - 1)).toNat 0))) from hmh14.2.1) (by omega) (by omega) (by unfold i32; omega) (congrArg Int32.ofInt (Eq.trans (eUp_ne (by omega)) (Eq.trans (fj 3 (by decide)) (Eq.trans (eUp_ne (by decide)) (Eq.trans (eUp_ne (by omega)) hr.2.2.2.1))))) ?_
      refine eW_iload_n 125 rfl rfl rfl ?_
      refine eW_iadd 126 rfl rfl ?_
      refine eW_iastore 127 rfl rfl (Nat.ble_eq_true_of_le (by omega)) (show h14 64 = .inl (0, 62, .inl (eIA (eUp g2 (22 + (G.2.2.2.1 - 1)).toNat 0))) from hmh14.2.1) (by omega) (by omega) (by unfold i32; omega) rfl ?_
      intro h15 eh15 oh15
      have hmh15 : mM h15 s (mUp A 0 (eUp (eUp g2 (22 + (G.2.2.2.1 - 1)).toNat 0) 3 (((G.2.2.1 1 + G.2.2.1 5)) + t))) := mM_0 hmh14 eh15 oh15 ⟨rfl, rfl, rfl, rfl, rfl, rfl, rfl, rfl⟩
      have frh15 : mFr h h15 := mFr_a frh14 (by decide) oh15
      refine eW_aload_n 128 rfl rfl rfl ?_
      refine eW_getfield 131 rfl rfl (Nat.ble_eq_true_of_le (by omega)) rfl hmh15.1 rfl ⟨rfl, fun _ h9 => nomatch h9⟩ ?_
      refine eW_bipush 133 rfl rfl 6 rfl ?_
      refine eW_dup2 134 rfl rfl rfl ?_
      refine eW_iaload 135 rfl rfl ((G.2.2.1 3 + G.2.2.1 7)) (Nat.ble_eq_true_of_le (by omega)) (show h15 64 = .inl (0, 62, .inl (eIA (eUp (eUp g2 (22 + (G.2.2.2.1 - 1)).toNat 0) 3 (((G.2.2.1 1 + G.2.2.1 5)) + t)))) from hmh15.2.1) (by omega) (by omega) (by unfold i32; omega) (congrArg Int32.ofInt (Eq.trans (eUp_ne (by decide)) (Eq.trans (eUp_ne (by omega)) (Eq.trans (fj 6 (by decide)) (Eq.trans (eUp_ne (by decide)) (Eq.trans (eUp_ne (by omega)) hr.2.2.2.2.2.2.1)))))) ?_
      refine eW_iconst 136 rfl rfl ?_
      refine eW_iadd 137 rfl rfl ?_
      refine eW_iastore 138 rfl rfl (Nat.ble_eq_true_of_le (by omega)) (show h15 64 = .inl (0, 62, .inl (eIA (eUp (eUp g2 (22 + (G.2.2.2.1 - 1)).toNat 0) 3 (((G.2.2.1 1 + G.2.2.1 5)) + t)))) from hmh15.2.1) (by omega) (by omega) (by unfold i32; omega) rfl ?_
      intro h16 eh16 oh16
      have hmh16 : mM h16 s (mUp A 0 (eUp (eUp (eUp g2 (22 + (G.2.2.2.1 - 1)).toNat 0) 3 (((G.2.2.1 1 + G.2.2.1 5)) + t)) 6 (((G.2.2.1 3 + G.2.2.1 7)) + 1))) := mM_0 hmh15 eh16 oh16 ⟨rfl, rfl, rfl, rfl, rfl, rfl, rfl, rfl⟩
      have frh16 : mFr h h16 := mFr_a frh15 (by decide) oh16
      refine eW_aload_n 139 rfl rfl rfl ?_
      refine eW_getfield 142 rfl rfl (Nat.ble_eq_true_of_le (by omega)) rfl hmh16.1 rfl ⟨rfl, fun _ h9 => nomatch h9⟩ ?_
      refine eW_bipush 144 rfl rfl 7 rfl ?_
      refine eW_aload_n 145 rfl rfl rfl ?_
      refine eW_getfield 148 rfl rfl (Nat.ble_eq_true_of_le (by omega)) rfl hmh16.1 rfl ⟨rfl, fun _ h9 => nomatch h9⟩ ?_
      refine eW_iconst 149 rfl rfl ?_
      refine eW_iaload 150 rfl rfl 1 (Nat.ble_eq_true_of_le (by omega)) (show h16 64 = .inl (0, 62, .inl (eIA (eUp (eUp (eUp g2 (22 + (G.2.2.2.1 - 1)).toNat 0) 3 (((G.2.2.1 1 + G.2.2.1 5)) + t)) 6 (((G.2.2.1 3 + G.2.2.1 7)) + 1)))) from hmh16.2.1) (by omega) (by omega) (by unfold i32; omega) (congrArg Int32.ofInt (Eq.trans (eUp_ne (by decide)) (Eq.trans (eUp_ne (by decide)) (Eq.trans (eUp_ne (by omega)) (Eq.trans (fj 1 (by decide)) (Eq.trans (eUp_ne (by decide)) (Eq.trans (eUp_ne (by omega)) (hr.2.1.trans ht0)))))))) ?_
      refine eW_iastore 151 rfl rfl (Nat.ble_eq_true_of_le (by omega)) (show h16 64 = .inl (0, 62, .inl (eIA (eUp (eUp (eUp g2 (22 + (G.2.2.2.1 - 1)).toNat 0) 3 (((G.2.2.1 1 + G.2.2.1 5)) + t)) 6 (((G.2.2.1 3 + G.2.2.1 7)) + 1)))) from hmh16.2.1) (by omega) (by omega) (by unfold i32; omega) rfl ?_
      intro h17 eh17 oh17
      have hmh17 : mM h17 s (mUp A 0 (eUp (eUp (eUp (eUp g2 (22 + (G.2.2.2.1 - 1)).toNat 0) 3 (((G.2.2.1 1 + G.2.2.1 5)) + t)) 6 (((G.2.2.1 3 + G.2.2.1 7)) + 1)) 7 1)) := mM_0 hmh16 eh17 oh17 ⟨rfl, rfl, rfl, rfl, rfl, rfl, rfl, rfl⟩
      have frh17 : mFr h h17 := mFr_a frh16 (by decide) oh17
      refine eW_aload_n 152 rfl rfl rfl ?_
      refine eW_getfield 155 rfl rfl (Nat.ble_eq_true_of_le (by omega)) rfl hmh17.1 rfl ⟨rfl, fun _ h9 => nomatch h9⟩ ?_
      refine eW_iload 157 rfl rfl rfl ?_
      refine eW_dup2 158 rfl rfl rfl ?_
      refine eW_iaload 159 rfl rfl (G.2.2.1 4) (Nat.ble_eq_true_of_le (by omega)) (show h17 64 = .inl (0, 62, .inl (eIA (eUp (eUp (eUp (eUp g2 (22 + (G.2.2.2.1 - 1)).toNat 0) 3 (((G.2.2.1 1 + G.2.2.1 5)) + t)) 6 (((G.2.2.1 3 + G.2.2.1 7)) + 1)) 7 1))) from hmh17.2.1) (by omega) (by omega) (by unfold i32; omega) (congrArg Int32.ofInt (Eq.trans (eUp_ne (by decide)) (Eq.trans (eUp_ne (by decide)) (Eq.trans (eUp_ne (by decide)) (Eq.trans (eUp_ne (by omega)) (Eq.trans (fj 18 (by decide)) (Eq.trans (eUp_ne (by decide)) (Eq.trans (eUp_ne (by omega)) (hr.2.2.2.2.2.2.2.2.2.1 4 (by decide)))))))))) ?_
      refine eW_iconst 160 rfl rfl ?_
      refine eW_iadd 161 rfl rfl ?_
      refine eW_iastore 162 rfl rfl (Nat.ble_eq_true_of_le (by omega)) (show h17 64 = .inl (0, 62, .inl (eIA (eUp (eUp (eUp (eUp g2 (22 + (G.2.2.2.1 - 1)).toNat 0) 3 (((G.2.2.1 1 + G.2.2.1 5)) + t)) 6 (((G.2.2.1 3 + G.2.2.1 7)) + 1)) 7 1))) from hmh17.2.1) (by omega) (by omega) (by unfold i32; omega) rfl ?_
      intro h18 eh18 oh18
      have hmh18 : mM h18 s (mUp A 0 (eUp (eUp (eUp (eUp (eUp g2 (22 + (G.2.2.2.1 - 1)).toNat 0) 3 (((G.2.2.1 1 + G.2.2.1 5)) + t)) 6 (((G.2.2.1 3 + G.2.2.1 7)) + 1)) 7 1) 18 ((G.2.2.1 4) + 1))) := mM_0 hmh17 eh18 oh18 ⟨rfl, rfl, rfl, rfl, rfl, rfl, rfl, rfl⟩
      have frh18 : mFr h h18 := mFr_a frh17 (by decide) oh18
      refine eW_aload_n 163 rfl rfl rfl ?_
      refine eW_getfield 166 rfl rfl (Nat.ble_eq_true_of_le (by omega)) rfl hmh18.1 rfl ⟨rfl, fun _ h9 => nomatch h9⟩ ?_
      refine eW_iload 168 rfl rfl rfl ?_
      refine eW_iconst 169 rfl rfl ?_
      refine eW_iadd 170 rfl rfl ?_
      refine eW_dup2 171 rfl rfl rfl ?_
      refine eW_iaload 172 rfl rfl (G.2.2.1 5) (Nat.ble_eq_true_of_le (by omega)) (show h18 64 = .inl (0, 62, .inl (eIA (eUp (eUp (eUp (eUp (eUp g2 (22 + (G.2.2.2.1 - 1)).toNat 0) 3 (((G.2.2.1 1 + G.2.2.1 5)) + t)) 6 (((G.2.2.1 3 + G.2.2.1 7)) + 1)) 7 1) 18 ((G.2.2.1 4) + 1)))) from hmh18.2.1) (by omega) (by omega) (by unfold i32; omega) (congrArg Int32.ofInt (Eq.trans (eUp_ne (by decide)) (Eq.trans (eUp_ne (by decide)) (Eq.trans (eUp_ne (by decide)) (Eq.trans (eUp_ne (by decide)) (Eq.trans (eUp_ne (by omega)) (Eq.trans (fj 19 (by decide)) (Eq.trans (eUp_ne (by decide)) (Eq.trans (eUp_ne (by omega)) (hr.2.2.2.2.2.2.2.2.2.1 5 (by decide))))))))))) ?_
      refine eW_iload_n 173 rfl rfl rfl ?_
      refine eW_iadd 174 rfl rfl ?_
      refine eW_iastore 175 rfl rfl (Nat.ble_eq_true_of_le (by omega)) (show h18 64 = .inl (0, 62, .inl (eIA (eUp (eUp (eUp (eUp (eUp g2 (22 + (G.2.2.2.1 - 1)).toNat 0) 3 (((G.2.2.1 1 + G.2.2.1 5)) + t)) 6 (((G.2.2.1 3 + G.2.2.1 7)) + 1)) 7 1) 18 ((G.2.2.1 4) + 1)))) from hmh18.2.1) (by omega) (by omega) (by unfold i32; omega) rfl ?_
      intro h19 eh19 oh19
      have hmh19 : mM h19 s (mUp A 0 (eUp (eUp (eUp (eUp (eUp (eUp g2 (22 + (G.2.2.2.1 - 1)).toNat 0) 3 (((G.2.2.1 1 + G.2.2.1 5)) + t)) 6 (((G.2.2.1 3 + G.2.2.1 7)) + 1)) 7 1) 18 ((G.2.2.1 4) + 1)) 19 ((G.2.2.1 5) + t))) := mM_0 hmh18 eh19 oh19 ⟨rfl, rfl, rfl, rfl, rfl, rfl, rfl, rfl⟩
      have frh19 : mFr h h19 := mFr_a frh18 (by decide) oh19
      refine eW_aload_n 176 rfl rfl rfl ?_
      refine eW_getfield 179 rfl rfl (Nat.ble_eq_true_of_le (by omega)) rfl hmh19.1 rfl ⟨rfl, fun _ h9 => nomatch h9⟩ ?_
      refine eW_iload 181 rfl rfl rfl ?_
      refine eW_iconst 182 rfl rfl ?_
      refine eW_iadd 183 rfl rfl ?_
      refine eW_dup2 184 rfl rfl rfl ?_
      refine eW_iaload 185 rfl rfl (G.2.2.1 7) (Nat.ble_eq_true_of_le (by omega)) (show h19 64 = .inl (0, 62, .inl (eIA (eUp (eUp (eUp (eUp (eUp (eUp g2 (22 + (G.2.2.2.1 - 1)).toNat 0) 3 (((G.2.2.1 1 + G.2.2.1 5)) + t)) 6 (((G.2.2.1 3 + G.2.2.1 7)) + 1)) 7 1) 18 ((G.2.2.1 4) + 1)) 19 ((G.2.2.1 5) + t)))) from hmh19.2.1) (by omega) (by omega) (by unfold i32; omega) (congrArg Int32.ofInt (Eq.trans (eUp_ne (by decide)) (Eq.trans (eUp_ne (by decide)) (Eq.trans (eUp_ne (by decide)) (Eq.trans (eUp_ne (by decide)) (Eq.trans (eUp_ne (by decide)) (Eq.trans (eUp_ne (by omega)) (Eq.trans (fj 21 (by decide)) (Eq.trans (eUp_ne (by decide)) (Eq.trans (eUp_ne (by omega)) (hr.2.2.2.2.2.2.2.2.2.1 7 (by decide)))))))))))) ?_
      refine eW_iconst 186 rfl rfl ?_
      refine eW_iadd 187 rfl rfl ?_
      refine eW_iastore 188 rfl rfl (Nat.ble_eq_true_of_le (by omega)) (show h19 64 = .inl (0, 62, .inl (eIA (eUp (eUp (eUp (eUp (eUp (eUp g2 (22 + (G.2.2.2.1 - 1)).toNat 0) 3 (((G.2.2.1 1 + G.2.2.1 5)) + t)) 6 (((G.2.2.1 3 + G.2.2.1 7)) + 1)) 7 1) 18 ((G.2.2.1 4) + 1)) 19 ((G.2.2.1 5) + t)))) from hmh19.2.1) (by omega) (by omega) (by unfold i32; omega) rfl ?_
      intro h20 eh20 oh20
      have hmh20 : mM h20 s (mUp A 0 (eUp (eUp (eUp (eUp (eUp (eUp (eUp g2 (22 + (G.2.2.2.1 - 1)).toNat 0) 3 (((G.2.2.1 1 + G.2.2.1 5)) + t)) 6 (((G.2.2.1 3 + G.2.2.1 7)) + 1)) 7 1) 18 ((G.2.2.1 4) + 1)) 19 ((G.2.2.1 5) + t)) 21 ((G.2.2.1 7) + 1))) := mM_0 hmh19 eh20 oh20 ⟨rfl, rfl, rfl, rfl, rfl, rfl, rfl, rfl⟩
      have frh20 : mFr h h20 := mFr_a frh19 (by decide) oh20
      refine eW_aload_n 189 rfl rfl rfl ?_
      refine eW_getfield 192 rfl rfl (Nat.ble_eq_true_of_le (by omega)) rfl hmh20.1 rfl ⟨rfl, fun _ h9 => nomatch h9⟩ ?_
      refine eW_iconst 193 rfl rfl ?_
      refine eW_iconst 194 rfl rfl ?_
      refine eW_aload_n 195 rfl rfl rfl ?_
      refine eW_getfield 198 rfl rfl (Nat.ble_eq_true_of_le (by omega)) rfl hmh20.1 rfl ⟨rfl, fun _ h9 => nomatch h9⟩ ?_
      refine eW_iconst 199 rfl rfl ?_
      refine eW_iaload 200 rfl rfl 1 (Nat.ble_eq_true_of_le (by omega)) (show h20 64 = .inl (0, 62, .inl (eIA (eUp (eUp (eUp (eUp (eUp (eUp (eUp g2 (22 + (G.2.2.2.1 - 1)).toNat 0) 3 (((G.2.2.1 1 + G.2.2.1 5)) + t)) 6 (((G.2.2.1 3 + G.2.2.1 7)) + 1)) 7 1) 18 ((G.2.2.1 4) + 1)) 19 ((G.2.2.1 5) + t)) 21 ((G.2.2.1 7) + 1)))) from hmh20.2.1) (by omega) (by omega) (by unfold i32; omega) (congrArg Int32.ofInt (Eq.trans (eUp_ne (by decide)) (Eq.trans (eUp_ne (by decide)) (Eq.trans (eUp_ne (by decide)) (Eq.trans (eUp_ne (by decide)) (Eq.trans (eUp_ne (by decide)) (Eq.trans (eUp_ne (by decide)) (Eq.trans (eUp_ne (by omega)) (Eq.trans (fj 1 (by decide)) (Eq.trans (eUp_ne (by decide)) (Eq.trans (eUp_ne (by omega)) (hr.2.1.trans ht0)))))))))))) ?_
      refine eW_isub 201 rfl rfl ?_
      refine eW_iastore 202 rfl rfl (Nat.ble_eq_true_of_le (by omega)) (show h20 64 = .inl (0, 62, .inl (eIA (eUp (eUp (eUp (eUp (eUp (eUp (eUp g2 (22 + (G.2.2.2.1 - 1)).toNat 0) 3 (((G.2.2.1 1 + G.2.2.1 5)) + t)) 6 (((G.2.2.1 3 + G.2.2.1 7)) + 1)) 7 1) 18 ((G.2.2.1 4) + 1)) 19 ((G.2.2.1 5) + t)) 21 ((G.2.2.1 7) + 1)))) from hmh20.2.1) (by omega) (by omega) (by unfold i32; omega) rfl ?_
      intro h21 eh21 oh21
      have hmh21 : mM h21 s (mUp A 0 (eUp (eUp (eUp (eUp (eUp (eUp (eUp (eUp g2 (22 + (G.2.2.2.1 - 1)).toNat 0) 3 (((G.2.2.1 1 + G.2.2.1 5)) + t)) 6 (((G.2.2.1 3 + G.2.2.1 7)) + 1)) 7 1) 18 ((G.2.2.1 4) + 1)) 19 ((G.2.2.1 5) + t)) 21 ((G.2.2.1 7) + 1)) 1 (1 - 1))) := mM_0 hmh20 eh21 oh21 ⟨rfl, rfl, rfl, rfl, rfl, rfl, rfl, rfl⟩
      have frh21 : mFr h h21 := mFr_a frh20 (by decide) oh21
      refine eW_ret rfl rfl ?_
      refine ⟨_, rfl, _, ⟨hmh21, frh21⟩, ?_⟩
      have hM9 : gMake G (p, t, l) = (gDel (eUp G.1 p.toNat l) p.toNat G.2.2.2.1.toNat, G.2.1, gTls G t, G.2.2.2.1 - 1, 1 - G.2.2.2.2.1, G.2.2.2.2.2) := by
        unfold gMake gCut
        dsimp only
        rw [decide_eq_false (by omega : ¬ 0 < G.1 p.toNat - t - l), decide_eq_true (by omega : l = 0)]
      have hw := gWin_c (gI_make hI hM)
      rw [hM9] at hw
      dsimp only at hw
      rw [hM9]
      refine ⟨(Eq.trans (eUp_ne (by decide)) (Eq.trans (eUp_ne (by decide)) (Eq.trans (eUp_ne (by decide)) (Eq.trans (eUp_ne (by decide)) (Eq.trans (eUp_ne (by decide)) (Eq.trans (eUp_ne (by decide)) (Eq.trans (eUp_ne (by decide)) (Eq.trans (eUp_ne (by omega)) (Eq.trans (fj 0 (by decide)) hg0))))))))), (by rw [ht0]; exact (eUp_eq rfl)), (Eq.trans (eUp_ne (by decide)) (Eq.trans (eUp_ne (by decide)) (Eq.trans (eUp_ne (by decide)) (Eq.trans (eUp_ne (by decide)) (Eq.trans (eUp_ne (by decide)) (Eq.trans (eUp_ne (by decide)) (Eq.trans (eUp_ne (by decide)) (Eq.trans (eUp_ne (by omega)) (Eq.trans (fj 2 (by decide)) (Eq.trans (eUp_ne (by decide)) (Eq.trans (eUp_ne (by omega)) hr.2.2.1))))))))))), (by have e9 : (eUp (eUp (eUp (eUp (eUp (eUp (eUp (eUp g2 (22 + (G.2.2.2.1 - 1)).toNat 0) 3 (((G.2.2.1 1 + G.2.2.1 5)) + t)) 6 (((G.2.2.1 3 + G.2.2.1 7)) + 1)) 7 1) 18 ((G.2.2.1 4) + 1)) 19 ((G.2.2.1 5) + t)) 21 ((G.2.2.1 7) + 1)) 1 (1 - 1)) 3 = ((G.2.2.1 1 + G.2.2.1 5)) + t := (Eq.trans (eUp_ne (by decide)) (Eq.trans (eUp_ne (by decide)) (Eq.trans (eUp_ne (by decide)) (Eq.trans (eUp_ne (by decide)) (Eq.trans (eUp_ne (by decide)) (Eq.trans (eUp_ne (by decide)) (eUp_eq rfl))))))); exact e9.trans (show (((G.2.2.1 1 + G.2.2.1 5)) + t : Int) = gTls G t 1 + gTls G t 5 by first | rfl | omega)), (Eq.trans (eUp_ne (by decide)) (Eq.trans (eUp_ne (by decide)) (Eq.trans (eUp_ne (by decide)) (Eq.trans (eUp_ne (by decide)) (Eq.trans (eUp_ne (by decide)) (Eq.trans (eUp_ne (by decide)) (Eq.trans (eUp_ne (by decide)) (Eq.trans (eUp_ne (by omega)) (Eq.trans (fj 4 (by decide)) (Eq.trans (eUp_ne (by decide)) (Eq.trans (eUp_ne (by omega)) hr.2.2.2.2.1))))))))))), (Eq.trans (eUp_ne (by decide)) (Eq.trans (eUp_ne (by decide)) (Eq.trans (eUp_ne (by decide)) (Eq.trans (eUp_ne (by decide)) (Eq.trans (eUp_ne (by decide)) (Eq.trans (eUp_ne (by decide)) (Eq.trans (eUp_ne (by decide)) (Eq.trans (eUp_ne (by omega)) (Eq.trans (fj 5 (by decide)) (Eq.trans (eUp_ne (by decide)) (Eq.trans (eUp_ne (by omega)) hr.2.2.2.2.2.1))))))))))), (by have e9 : (eUp (eUp (eUp (eUp (eUp (eUp (eUp (eUp g2 (22 + (G.2.2.2.1 - 1)).toNat 0) 3 (((G.2.2.1 1 + G.2.2.1 5)) + t)) 6 (((G.2.2.1 3 + G.2.2.1 7)) + 1)) 7 1) 18 ((G.2.2.1 4) + 1)) 19 ((G.2.2.1 5) + t)) 21 ((G.2.2.1 7) + 1)) 1 (1 - 1)) 6 = ((G.2.2.1 3 + G.2.2.1 7)) + 1 := (Eq.trans (eUp_ne (by decide)) (Eq.trans (eUp_ne (by decide)) (Eq.trans (eUp_ne (by decide)) (Eq.trans (eUp_ne (by decide)) (Eq.trans (eUp_ne (by decide)) (eUp_eq rfl)))))); exact e9.trans (show (((G.2.2.1 3 + G.2.2.1 7)) + 1 : Int) = gTls G t 3 + gTls G t 7 by first | rfl | omega)), (by have e9 : (eUp (eUp (eUp (eUp (eUp (eUp (eUp (eUp g2 (22 + (G.2.2.2.1 - 1)).toNat 0) 3 (((G.2.2.1 1 + G.2.2.1 5)) + t)) 6 (((G.2.2.1 3 + G.2.2.1 7)) + 1)) 7 1) 18 ((G.2.2.1 4) + 1)) 19 ((G.2.2.1 5) + t)) 21 ((G.2.2.1 7) + 1)) 1 (1 - 1)) 7 = 1 := (Eq.trans (eUp_ne (by decide)) (Eq.trans (eUp_ne (by decide)) (Eq.trans (eUp_ne (by decide)) (Eq.trans (eUp_ne (by decide)) (eUp_eq rfl))))); exact e9.trans (show (1 : Int) = gWin (gDel (eUp G.1 p.toNat l) p.toNat G.2.2.2.1.toNat, G.2.1, gTls G t, G.2.2.2.1 - 1, 1 - G.2.2.2.2.1, G.2.2.2.2.2) by first | rfl | omega)), eL6 (Eq.trans (eUp_ne (by decide)) (Eq.trans (eUp_ne (by decide)) (Eq.trans (eUp_ne (by decide)) (Eq.trans (eUp_ne (by decide)) (Eq.trans (eUp_ne (by decide)) (Eq.trans (eUp_ne (by decide)) (Eq.trans (eUp_ne (by decide)) (Eq.trans (eUp_ne (by omega)) (Eq.trans (fj 8 (by decide)) (Eq.trans (eUp_ne (by decide)) (Eq.trans (eUp_ne (by omega)) (hr.2.2.2.2.2.2.2.2.1 0 (by decide))))))))))))) (Eq.trans (eUp_ne (by decide)) (Eq.trans (eUp_ne (by decide)) (Eq.trans (eUp_ne (by decide)) (Eq.trans (eUp_ne (by decide)) (Eq.trans (eUp_ne (by decide)) (Eq.trans (eUp_ne (by decide)) (Eq.trans (eUp_ne (by decide)) (Eq.trans (eUp_ne (by omega)) (Eq.trans (fj 9 (by decide)) (Eq.trans (eUp_ne (by decide)) (Eq.trans (eUp_ne (by omega)) (hr.2.2.2.2.2.2.2.2.1 1 (by decide))))))))))))) (Eq.trans (eUp_ne (by decide)) (Eq.trans (eUp_ne (by decide)) (Eq.trans (eUp_ne (by decide)) (Eq.trans (eUp_ne (by decide)) (Eq.trans (eUp_ne (by decide)) (Eq.trans (eUp_ne (by decide)) (Eq.trans (eUp_ne (by decide)) (Eq.trans (eUp_ne (by omega)) (Eq.trans (fj 10 (by decide)) (Eq.trans (eUp_ne (by decide)) (Eq.trans (eUp_ne (by omega)) (hr.2.2.2.2.2.2.2.2.1 2 (by decide))))))))))))) (Eq.trans (eUp_ne (by decide)) (Eq.trans (eUp_ne (by decide)) (Eq.trans (eUp_ne (by decide)) (Eq.trans (eUp_ne (by decide)) (Eq.trans (eUp_ne (by decide)) (Eq.trans (eUp_ne (by decide)) (Eq.trans (eUp_ne (by decide)) (Eq.trans (eUp_ne (by omega)) (Eq.trans (fj 11 (by decide)) (Eq.trans (eUp_ne (by decide)) (Eq.trans (eUp_ne (by omega)) (hr.2.2.2.2.2.2.2.2.1 3 (by decide))))))))))))) (Eq.trans (eUp_ne (by decide)) (Eq.trans (eUp_ne (by decide)) (Eq.trans (eUp_ne (by decide)) (Eq.trans (eUp_ne (by decide)) (Eq.trans (eUp_ne (by decide)) (Eq.trans (eUp_ne (by decide)) (Eq.trans (eUp_ne (by decide)) (Eq.trans (eUp_ne (by omega)) (Eq.trans (fj 12 (by decide)) (Eq.trans (eUp_ne (by decide)) (Eq.trans (eUp_ne (by omega)) (hr.2.2.2.2.2.2.2.2.1 4 (by decide))))))))))))) (Eq.trans (eUp_ne (by decide)) (Eq.trans (eUp_ne (by decide)) (Eq.trans (eUp_ne (by decide)) (Eq.trans (eUp_ne (by decide)) (Eq.trans (eUp_ne (by decide)) (Eq.trans (eUp_ne (by decide)) (Eq.trans (eUp_ne (by decide)) (Eq.trans (eUp_ne (by omega)) (Eq.trans (fj 13 (by decide)) (Eq.trans (eUp_ne (by decide)) (Eq.trans (eUp_ne (by omega)) (hr.2.2.2.2.2.2.2.2.1 5 (by decide))))))))))))), eL8 (by have e9 : (eUp (eUp (eUp (eUp (eUp (eUp (eUp (eUp g2 (22 + (G.2.2.2.1 - 1)).toNat 0) 3 (((G.2.2.1 1 + G.2.2.1 5)) + t)) 6 (((G.2.2.1 3 + G.2.2.1 7)) + 1)) 7 1) 18 ((G.2.2.1 4) + 1)) 19 ((G.2.2.1 5) + t)) 21 ((G.2.2.1 7) + 1)) 1 (1 - 1)) 14 = G.2.2.1 0 := (Eq.trans (eUp_ne (by decide)) (Eq.trans (eUp_ne (by decide)) (Eq.trans (eUp_ne (by decide)) (Eq.trans (eUp_ne (by decide)) (Eq.trans (eUp_ne (by decide)) (Eq.trans (eUp_ne (by decide)) (Eq.trans (eUp_ne (by decide)) (Eq.trans (eUp_ne (by omega)) (Eq.trans (fj 14 (by decide)) (Eq.trans (eUp_ne (by decide)) (Eq.trans (eUp_ne (by omega)) (hr.2.2.2.2.2.2.2.2.2.1 0 (by decide))))))))))))); exact e9.trans (show (G.2.2.1 0 : Int) = gTls G t 0 by first | rfl | omega)) (by have e9 : (eUp (eUp (eUp (eUp (eUp (eUp (eUp (eUp g2 (22 + (G.2.2.2.1 - 1)).toNat 0) 3 (((G.2.2.1 1 + G.2.2.1 5)) + t)) 6 (((G.2.2.1 3 + G.2.2.1 7)) + 1)) 7 1) 18 ((G.2.2.1 4) + 1)) 19 ((G.2.2.1 5) + t)) 21 ((G.2.2.1 7) + 1)) 1 (1 - 1)) 15 = G.2.2.1 1 := (Eq.trans (eUp_ne (by decide)) (Eq.trans (eUp_ne (by decide)) (Eq.trans (eUp_ne (by decide)) (Eq.trans (eUp_ne (by decide)) (Eq.trans (eUp_ne (by decide)) (Eq.trans (eUp_ne (by decide)) (Eq.trans (eUp_ne (by decide)) (Eq.trans (eUp_ne (by omega)) (Eq.trans (fj 15 (by decide)) (Eq.trans (eUp_ne (by decide)) (Eq.trans (eUp_ne (by omega)) (hr.2.2.2.2.2.2.2.2.2.1 1 (by decide))))))))))))); exact e9.trans (show (G.2.2.1 1 : Int) = gTls G t 1 by first | rfl | omega)) (by have e9 : (eUp (eUp (eUp (eUp (eUp (eUp (eUp (eUp g2 (22 + (G.2.2.2.1 - 1)).toNat 0) 3 (((G.2.2.1 1 + G.2.2.1 5)) + t)) 6 (((G.2.2.1 3 + G.2.2.1 7)) + 1)) 7 1) 18 ((G.2.2.1 4) + 1)) 19 ((G.2.2.1 5) + t)) 21 ((G.2.2.1 7) + 1)) 1 (1 - 1)) 16 = G.2.2.1 2 := (Eq.trans (eUp_ne (by decide)) (Eq.trans (eUp_ne (by decide)) (Eq.trans (eUp_ne (by decide)) (Eq.trans (eUp_ne (by decide)) (Eq.trans (eUp_ne (by decide)) (Eq.trans (eUp_ne (by decide)) (Eq.trans (eUp_ne (by decide)) (Eq.trans (eUp_ne (by omega)) (Eq.trans (fj 16 (by decide)) (Eq.trans (eUp_ne (by decide)) (Eq.trans (eUp_ne (by omega)) (hr.2.2.2.2.2.2.2.2.2.1 2 (by decide))))))))))))); exact e9.trans (show (G.2.2.1 2 : Int) = gTls G t 2 by first | rfl | omega)) (by have e9 : (eUp (eUp (eUp (eUp (eUp (eUp (eUp (eUp g2 (22 + (G.2.2.2.1 - 1)).toNat 0) 3 (((G.2.2.1 1 + G.2.2.1 5)) + t)) 6 (((G.2.2.1 3 + G.2.2.1 7)) + 1)) 7 1) 18 ((G.2.2.1 4) + 1)) 19 ((G.2.2.1 5) + t)) 21 ((G.2.2.1 7) + 1)) 1 (1 - 1)) 17 = G.2.2.1 3 := (Eq.trans (eUp_ne (by decide)) (Eq.trans (eUp_ne (by decide)) (Eq.trans (eUp_ne (by decide)) (Eq.trans (eUp_ne (by decide)) (Eq.trans (eUp_ne (by decide)) (Eq.trans (eUp_ne (by decide)) (Eq.trans (eUp_ne (by decide)) (Eq.trans (eUp_ne (by omega)) (Eq.trans (fj 17 (by decide)) (Eq.trans (eUp_ne (by decide)) (Eq.trans (eUp_ne (by omega)) (hr.2.2.2.2.2.2.2.2.2.1 3 (by decide))))))))))))); exact e9.trans (show (G.2.2.1 3 : Int) = gTls G t 3 by first | rfl | omega)) (by have e9 : (eUp (eUp (eUp (eUp (eUp (eUp (eUp (eUp g2 (22 + (G.2.2.2.1 - 1)).toNat 0) 3 (((G.2.2.1 1 + G.2.2.1 5)) + t)) 6 (((G.2.2.1 3 + G.2.2.1 7)) + 1)) 7 1) 18 ((G.2.2.1 4) + 1)) 19 ((G.2.2.1 5) + t)) 21 ((G.2.2.1 7) + 1)) 1 (1 - 1)) 18 = (G.2.2.1 4) + 1 := (Eq.trans (eUp_ne (by decide)) (Eq.trans (eUp_ne (by decide)) (Eq.trans (eUp_ne (by decide)) (eUp_eq rfl)))); exact e9.trans (show ((G.2.2.1 4) + 1 : Int) = gTls G t 4 by first | rfl | omega)) (by have e9 : (eUp (eUp (eUp (eUp (eUp (eUp (eUp (eUp g2 (22 + (G.2.2.2.1 - 1)).toNat 0) 3 (((G.2.2.1 1 + G.2.2.1 5)) + t)) 6 (((G.2.2.1 3 + G.2.2.1 7)) + 1)) 7 1) 18 ((G.2.2.1 4) + 1)) 19 ((G.2.2.1 5) + t)) 21 ((G.2.2.1 7) + 1)) 1 (1 - 1)) 19 = (G.2.2.1 5) + t := (Eq.trans (eUp_ne (by decide)) (Eq.trans (eUp_ne (by decide)) (eUp_eq rfl))); exact e9.trans (show ((G.2.2.1 5) + t : Int) = gTls G t 5 by first | rfl | omega)) (by have e9 : (eUp (eUp (eUp (eUp (eUp (eUp (eUp (eUp g2 (22 + (G.2.2.2.1 - 1)).toNat 0) 3 (((G.2.2.1 1 + G.2.2.1 5)) + t)) 6 (((G.2.2.1 3 + G.2.2.1 7)) + 1)) 7 1) 18 ((G.2.2.1 4) + 1)) 19 ((G.2.2.1 5) + t)) 21 ((G.2.2.1 7) + 1)) 1 (1 - 1)) 20 = G.2.2.1 6 := (Eq.trans (eUp_ne (by decide)) (Eq.trans (eUp_ne (by decide)) (Eq.trans (eUp_ne (by decide)) (Eq.trans (eUp_ne (by decide)) (Eq.trans (eUp_ne (by decide)) (Eq.trans (eUp_ne (by decide)) (Eq.trans (eUp_ne (by decide)) (Eq.trans (eUp_ne (by omega)) (Eq.trans (fj 20 (by decide)) (Eq.trans (eUp_ne (by decide)) (Eq.trans (eUp_ne (by omega)) (hr.2.2.2.2.2.2.2.2.2.1 6 (by decide))))))))))))); exact e9.trans (show (G.2.2.1 6 : Int) = gTls G t 6 by first | rfl | omega)) (by have e9 : (eUp (eUp (eUp (eUp (eUp (eUp (eUp (eUp g2 (22 + (G.2.2.2.1 - 1)).toNat 0) 3 (((G.2.2.1 1 + G.2.2.1 5)) + t)) 6 (((G.2.2.1 3 + G.2.2.1 7)) + 1)) 7 1) 18 ((G.2.2.1 4) + 1)) 19 ((G.2.2.1 5) + t)) 21 ((G.2.2.1 7) + 1)) 1 (1 - 1)) 21 = (G.2.2.1 7) + 1 := (Eq.trans (eUp_ne (by decide)) (eUp_eq rfl)); exact e9.trans (show ((G.2.2.1 7) + 1 : Int) = gTls G t 7 by first | rfl | omega)), fun i hi => ?_⟩
      have hi : (i : Int) < G.2.2.2.1 - 1 := hi
      refine Eq.trans (eUp_ne (by omega)) ?_
      refine Eq.trans (eUp_ne (by omega)) ?_
      refine Eq.trans (eUp_ne (by omega)) ?_
      refine Eq.trans (eUp_ne (by omega)) ?_
      refine Eq.trans (eUp_ne (by omega)) ?_
      refine Eq.trans (eUp_ne (by omega)) ?_
      refine Eq.trans (eUp_ne (by omega)) ?_
      refine Eq.trans (eUp_ne (by omega)) ?_
      refine (fm i (by omega)).trans ?_
      have e8 : ∀ j : Nat, (j : Int) < G.2.2.2.1 → eUp (eUp (A 0) (22 + p).toNat l) 0 (G.2.2.2.1 - 1) (22 + j) = eUp G.1 p.toNat l j := fun j hj => (eUp_ne (by omega)).trans ((eUp_sh (by omega) j).trans (eUp_cg (hr.2.2.2.2.2.2.2.2.2.2 j (by omega))))
      show gDel _ p.toNat (G.2.2.2.1 - 1 + 1).toNat i = gDel (eUp G.1 p.toNat l) p.toNat G.2.2.2.1.toNat i
      rw [show (G.2.2.2.1 - 1 + 1).toNat = G.2.2.2.1.toNat by omega]
      by_cases hq : p.toNat ≤ i
      · rw [gDel_lt (by omega), gDel_lt (by omega)]; exact e8 (i + 1) (by omega)
      · rw [gDel_ge (by omega), gDel_ge (by omega)]; exact e8 i (by omega)
  · refine eW_aload_n 40 rfl rfl rfl ?_
    refine eW_iload 42 rfl rfl rfl ?_
    refine eW_callVH 45 [.ref 63, vI (((G.1 p.toNat) - t) - l)] [] [vI (G.2.2.2.1 + 1 - 1)] rfl rfl rfl rfl (Nat.ble_eq_true_of_le (by omega)) hmh2.1 rfl rfl rfl (m_comes (d := d + 0) hmh2 hN (n := G.2.2.2.1) (show (eUp (A 0) (22 + p).toNat l) 0 = G.2.2.2.1 from (Eq.trans (eUp_ne (by omega)) hr.1)) ⟨g1, by omega⟩) rfl rfl ?_
    intro h22 fh22
    have hmh22 : mM h22 s (mUp A 0 (eUp (eUp (eUp (A 0) (22 + p).toNat l) (22 + G.2.2.2.1).toNat (((G.1 p.toNat) - t) - l)) 0 (G.2.2.2.1 + 1))) := fh22.1
    have frh22 : mFr h h22 := mFr_t frh2 fh22.2
    refine eW_pop 46 rfl rfl rfl ?_
    refine eW_iload_n 47 rfl rfl rfl ?_
    refine eW_if_ne 50 rfl rfl (by unfold i32; omega) (fun c23 => ?_) (fun c23 => absurd c23 (by omega))
    refine eW_aload_n 118 rfl rfl rfl ?_
    refine eW_getfield 121 rfl rfl (Nat.ble_eq_true_of_le (by omega)) rfl hmh22.1 rfl ⟨rfl, fun _ h9 => nomatch h9⟩ ?_
    refine eW_iconst 122 rfl rfl ?_
    refine eW_dup2 123 rfl rfl rfl ?_
    refine eW_iaload 124 rfl rfl ((G.2.2.1 1 + G.2.2.1 5)) (Nat.ble_eq_true_of_le (by omega)) (show h22 64 = .inl (0, 62, .inl (eIA (eUp (eUp (eUp (A 0) (22 + p).toNat l) (22 + G.2.2.2.1).toNat (((G.1 p.toNat) - t) - l)) 0 (G.2.2.2.1 + 1)))) from hmh22.2.1) (by omega) (by omega) (by unfold i32; omega) (congrArg Int32.ofInt (Eq.trans (eUp_ne (by decide)) (Eq.trans (eUp_ne (by omega)) (Eq.trans (eUp_ne (by omega)) hr.2.2.2.1)))) ?_
    refine eW_iload_n 125 rfl rfl rfl ?_
    refine eW_iadd 126 rfl rfl ?_
    refine eW_iastore 127 rfl rfl (Nat.ble_eq_true_of_le (by omega)) (show h22 64 = .inl (0, 62, .inl (eIA (eUp (eUp (eUp (A 0) (22 + p).toNat l) (22 + G.2.2.2.1).toNat (((G.1 p.toNat) - t) - l)) 0 (G.2.2.2.1 + 1)))) from hmh22.2.1) (by omega) (by omega) (by unfold i32; omega) rfl ?_
    intro h24 eh24 oh24
    have hmh24 : mM h24 s (mUp A 0 (eUp (eUp (eUp (eUp (A 0) (22 + p).toNat l) (22 + G.2.2.2.1).toNat (((G.1 p.toNat) - t) - l)) 0 (G.2.2.2.1 + 1)) 3 (((G.2.2.1 1 + G.2.2.1 5)) + t))) := mM_0 hmh22 eh24 oh24 ⟨rfl, rfl, rfl, rfl, rfl, rfl, rfl, rfl⟩
    have frh24 : mFr h h24 := mFr_a frh22 (by decide) oh24
    refine eW_aload_n 128 rfl rfl rfl ?_
    refine eW_getfield 131 rfl rfl (Nat.ble_eq_true_of_le (by omega)) rfl hmh24.1 rfl ⟨rfl, fun _ h9 => nomatch h9⟩ ?_
    refine eW_bipush 133 rfl rfl 6 rfl ?_
    refine eW_dup2 134 rfl rfl rfl ?_
    refine eW_iaload 135 rfl rfl ((G.2.2.1 3 + G.2.2.1 7)) (Nat.ble_eq_true_of_le (by omega)) (show h24 64 = .inl (0, 62, .inl (eIA (eUp (eUp (eUp (eUp (A 0) (22 + p).toNat l) (22 + G.2.2.2.1).toNat (((G.1 p.toNat) - t) - l)) 0 (G.2.2.2.1 + 1)) 3 (((G.2.2.1 1 + G.2.2.1 5)) + t)))) from hmh24.2.1) (by omega) (by omega) (by unfold i32; omega) (congrArg Int32.ofInt (Eq.trans (eUp_ne (by decide)) (Eq.trans (eUp_ne (by decide)) (Eq.trans (eUp_ne (by omega)) (Eq.trans (eUp_ne (by omega)) hr.2.2.2.2.2.2.1))))) ?_
    refine eW_iconst 136 rfl rfl ?_
    refine eW_iadd 137 rfl rfl ?_
    refine eW_iastore 138 rfl rfl (Nat.ble_eq_true_of_le (by omega)) (show h24 64 = .inl (0, 62, .inl (eIA (eUp (eUp (eUp (eUp (A 0) (22 + p).toNat l) (22 + G.2.2.2.1).toNat (((G.1 p.toNat) - t) - l)) 0 (G.2.2.2.1 + 1)) 3 (((G.2.2.1 1 + G.2.2.1 5)) + t)))) from hmh24.2.1) (by omega) (by omega) (by unfold i32; omega) rfl ?_
    intro h25 eh25 oh25
    have hmh25 : mM h25 s (mUp A 0 (eUp (eUp (eUp (eUp (eUp (A 0) (22 + p).toNat l) (22 + G.2.2.2.1).toNat (((G.1 p.toNat) - t) - l)) 0 (G.2.2.2.1 + 1)) 3 (((G.2.2.1 1 + G.2.2.1 5)) + t)) 6 (((G.2.2.1 3 + G.2.2.1 7)) + 1))) := mM_0 hmh24 eh25 oh25 ⟨rfl, rfl, rfl, rfl, rfl, rfl, rfl, rfl⟩
    have frh25 : mFr h h25 := mFr_a frh24 (by decide) oh25
    refine eW_aload_n 139 rfl rfl rfl ?_
    refine eW_getfield 142 rfl rfl (Nat.ble_eq_true_of_le (by omega)) rfl hmh25.1 rfl ⟨rfl, fun _ h9 => nomatch h9⟩ ?_
    refine eW_bipush 144 rfl rfl 7 rfl ?_
    refine eW_aload_n 145 rfl rfl rfl ?_
    refine eW_getfield 148 rfl rfl (Nat.ble_eq_true_of_le (by omega)) rfl hmh25.1 rfl ⟨rfl, fun _ h9 => nomatch h9⟩ ?_
    refine eW_iconst 149 rfl rfl ?_
    refine eW_iaload 150 rfl rfl 1 (Nat.ble_eq_true_of_le (by omega)) (show h25 64 = .inl (0, 62, .inl (eIA (eUp (eUp (eUp (eUp (eUp (A 0) (22 + p).toNat l) (22 + G.2.2.2.1).toNat (((G.1 p.toNat) - t) - l)) 0 (G.2.2.2.1 + 1)) 3 (((G.2.2.1 1 + G.2.2.1 5)) + t)) 6 (((G.2.2.1 3 + G.2.2.1 7)) + 1)))) from hmh25.2.1) (by omega) (by omega) (by unfold i32; omega) (congrArg Int32.ofInt (Eq.trans (eUp_ne (by decide)) (Eq.trans (eUp_ne (by decide)) (Eq.trans (eUp_ne (by decide)) (Eq.trans (eUp_ne (by omega)) (Eq.trans (eUp_ne (by omega)) (hr.2.1.trans ht0))))))) ?_
    refine eW_iastore 151 rfl rfl (Nat.ble_eq_true_of_le (by omega)) (show h25 64 = .inl (0, 62, .inl (eIA (eUp (eUp (eUp (eUp (eUp (A 0) (22 + p).toNat l) (22 + G.2.2.2.1).toNat (((G.1 p.toNat) - t) - l)) 0 (G.2.2.2.1 + 1)) 3 (((G.2.2.1 1 + G.2.2.1 5)) + t)) 6 (((G.2.2.1 3 + G.2.2.1 7)) + 1)))) from hmh25.2.1) (by omega) (by omega) (by unfold i32; omega) rfl ?_
    intro h26 eh26 oh26
    have hmh26 : mM h26 s (mUp A 0 (eUp (eUp (eUp (eUp (eUp (eUp (A 0) (22 + p).toNat l) (22 + G.2.2.2.1).toNat (((G.1 p.toNat) - t) - l)) 0 (G.2.2.2.1 + 1)) 3 (((G.2.2.1 1 + G.2.2.1 5)) + t)) 6 (((G.2.2.1 3 + G.2.2.1 7)) + 1)) 7 1)) := mM_0 hmh25 eh26 oh26 ⟨rfl, rfl, rfl, rfl, rfl, rfl, rfl, rfl⟩
    have frh26 : mFr h h26 := mFr_a frh25 (by decide) oh26
    refine eW_aload_n 152 rfl rfl rfl ?_
    refine eW_getfield 155 rfl rfl (Nat.ble_eq_true_of_le (by omega)) rfl hmh26.1 rfl ⟨rfl, fun _ h9 => nomatch h9⟩ ?_
    refine eW_iload 157 rfl rfl rfl ?_
    refine eW_dup2 158 rfl rfl rfl ?_
    refine eW_iaload 159 rfl rfl (G.2.2.1 4) (Nat.ble_eq_true_of_le (by omega)) (show h26 64 = .inl (0, 62, .inl (eIA (eUp (eUp (eUp (eUp (eUp (eUp (A 0) (22 + p).toNat l) (22 + G.2.2.2.1).toNat (((G.1 p.toNat) - t) - l)) 0 (G.2.2.2.1 + 1)) 3 (((G.2.2.1 1 + G.2.2.1 5)) + t)) 6 (((G.2.2.1 3 + G.2.2.1 7)) + 1)) 7 1))) from hmh26.2.1) (by omega) (by omega) (by unfold i32; omega) (congrArg Int32.ofInt (Eq.trans (eUp_ne (by decide)) (Eq.trans (eUp_ne (by decide)) (Eq.trans (eUp_ne (by decide)) (Eq.trans (eUp_ne (by decide)) (Eq.trans (eUp_ne (by omega)) (Eq.trans (eUp_ne (by omega)) (hr.2.2.2.2.2.2.2.2.2.1 4 (by decide))))))))) ?_
    refine eW_iconst 160 rfl rfl ?_
    refine eW_iadd 161 rfl rfl ?_
    refine eW_iastore 162 rfl rfl (Nat.ble_eq_true_of_le (by omega)) (show h26 64 = .inl (0, 62, .inl (eIA (eUp (eUp (eUp (eUp (eUp (eUp (A 0) (22 + p).toNat l) (22 + G.2.2.2.1).toNat (((G.1 p.toNat) - t) - l)) 0 (G.2.2.2.1 + 1)) 3 (((G.2.2.1 1 + G.2.2.1 5)) + t)) 6 (((G.2.2.1 3 + G.2.2.1 7)) + 1)) 7 1))) from hmh26.2.1) (by omega) (by omega) (by unfold i32; omega) rfl ?_
    intro h27 eh27 oh27
    have hmh27 : mM h27 s (mUp A 0 (eUp (eUp (eUp (eUp (eUp (eUp (eUp (A 0) (22 + p).toNat l) (22 + G.2.2.2.1).toNat (((G.1 p.toNat) - t) - l)) 0 (G.2.2.2.1 + 1)) 3 (((G.2.2.1 1 + G.2.2.1 5)) + t)) 6 (((G.2.2.1 3 + G.2.2.1 7)) + 1)) 7 1) 18 ((G.2.2.1 4) + 1))) := mM_0 hmh26 eh27 oh27 ⟨rfl, rfl, rfl, rfl, rfl, rfl, rfl, rfl⟩
    have frh27 : mFr h h27 := mFr_a frh26 (by decide) oh27
    refine eW_aload_n 163 rfl rfl rfl ?_
    refine eW_getfield 166 rfl rfl (Nat.ble_eq_true_of_le (by omega)) rfl hmh27.1 rfl ⟨rfl, fun _ h9 => nomatch h9⟩ ?_
    refine eW_iload 168 rfl rfl rfl ?_
    refine eW_iconst 169 rfl rfl ?_
    refine eW_iadd 170 rfl rfl ?_
    refine eW_dup2 171 rfl rfl rfl ?_
    refine eW_iaload 172 rfl rfl (G.2.2.1 5) (Nat.ble_eq_true_of_le (by omega)) (show h27 64 = .inl (0, 62, .inl (eIA (eUp (eUp (eUp (eUp (eUp (eUp (eUp (A 0) (22 + p).toNat l) (22 + G.2.2.2.1).toNat (((G.1 p.toNat) - t) - l)) 0 (G.2.2.2.1 + 1)) 3 (((G.2.2.1 1 + G.2.2.1 5)) + t)) 6 (((G.2.2.1 3 + G.2.2.1 7)) + 1)) 7 1) 18 ((G.2.2.1 4) + 1)))) from hmh27.2.1) (by omega) (by omega) (by unfold i32; omega) (congrArg Int32.ofInt (Eq.trans (eUp_ne (by decide)) (Eq.trans (eUp_ne (by decide)) (Eq.trans (eUp_ne (by decide)) (Eq.trans (eUp_ne (by decide)) (Eq.trans (eUp_ne (by decide)) (Eq.trans (eUp_ne (by omega)) (Eq.trans (eUp_ne (by omega)) (hr.2.2.2.2.2.2.2.2.2.1 5 (by decide)))))))))) ?_
    refine eW_iload_n 173 rfl rfl rfl ?_
    refine eW_iadd 174 rfl rfl ?_
    refine eW_iastore 175 rfl rfl (Nat.ble_eq_true_of_le (by omega)) (show h27 64 = .inl (0, 62, .inl (eIA (eUp (eUp (eUp (eUp (eUp (eUp (eUp (A 0) (22 + p).toNat l) (22 + G.2.2.2.1).toNat (((G.1 p.toNat) - t) - l)) 0 (G.2.2.2.1 + 1)) 3 (((G.2.2.1 1 + G.2.2.1 5)) + t)) 6 (((G.2.2.1 3 + G.2.2.1 7)) + 1)) 7 1) 18 ((G.2.2.1 4) + 1)))) from hmh27.2.1) (by omega) (by omega) (by unfold i32; omega) rfl ?_
    intro h28 eh28 oh28
    have hmh28 : mM h28 s (mUp A 0 (eUp (eUp (eUp (eUp (eUp (eUp (eUp (eUp (A 0) (22 + p).toNat l) (22 + G.2.2.2.1).toNat (((G.1 p.toNat) - t) - l)) 0 (G.2.2.2.1 + 1)) 3 (((G.2.2.1 1 + G.2.2.1 5)) + t)) 6 (((G.2.2.1 3 + G.2.2.1 7)) + 1)) 7 1) 18 ((G.2.2.1 4) + 1)) 19 ((G.2.2.1 5) + t))) := mM_0 hmh27 eh28 oh28 ⟨rfl, rfl, rfl, rfl, rfl, rfl, rfl, rfl⟩
    have frh28 : mFr h h28 := mFr_a frh27 (by decide) oh28
    refine eW_aload_n 176 rfl rfl rfl ?_
    refine eW_getfield 179 rfl rfl (Nat.ble_eq_true_of_le (by omega)) rfl hmh28.1 rfl ⟨rfl, fun _ h9 => nomatch h9⟩ ?_
    refine eW_iload 181 rfl rfl rfl ?_
    refine eW_iconst 182 rfl rfl ?_
    refine eW_iadd 183 rfl rfl ?_
    refine eW_dup2 184 rfl rfl rfl ?_
    refine eW_iaload 185 rfl rfl (G.2.2.1 7) (Nat.ble_eq_true_of_le (by omega)) (show h28 64 = .inl (0, 62, .inl (eIA (eUp (eUp (eUp (eUp (eUp (eUp (eUp (eUp (A 0) (22 + p).toNat l) (22 + G.2.2.2.1).toNat (((G.1 p.toNat) - t) - l)) 0 (G.2.2.2.1 + 1)) 3 (((G.2.2.1 1 + G.2.2.1 5)) + t)) 6 (((G.2.2.1 3 + G.2.2.1 7)) + 1)) 7 1) 18 ((G.2.2.1 4) + 1)) 19 ((G.2.2.1 5) + t)))) from hmh28.2.1) (by omega) (by omega) (by unfold i32; omega) (congrArg Int32.ofInt (Eq.trans (eUp_ne (by decide)) (Eq.trans (eUp_ne (by decide)) (Eq.trans (eUp_ne (by decide)) (Eq.trans (eUp_ne (by decide)) (Eq.trans (eUp_ne (by decide)) (Eq.trans (eUp_ne (by decide)) (Eq.trans (eUp_ne (by omega)) (Eq.trans (eUp_ne (by omega)) (hr.2.2.2.2.2.2.2.2.2.1 7 (by decide))))))))))) ?_
    refine eW_iconst 186 rfl rfl ?_
    refine eW_iadd 187 rfl rfl ?_
    refine eW_iastore 188 rfl rfl (Nat.ble_eq_true_of_le (by omega)) (show h28 64 = .inl (0, 62, .inl (eIA (eUp (eUp (eUp (eUp (eUp (eUp (eUp (eUp (A 0) (22 + p).toNat l) (22 + G.2.2.2.1).toNat (((G.1 p.toNat) - t) - l)) 0 (G.2.2.2.1 + 1)) 3 (((G.2.2.1 1 + G.2.2.1 5)) + t)) 6 (((G.2.2.1 3 + G.2.2.1 7)) + 1)) 7 1) 18 ((G.2.2.1 4) + 1)) 19 ((G.2.2.1 5) + t)))) from hmh28.2.1) (by omega) (by omega) (by unfold i32; omega) rfl ?_
    intro h29 eh29 oh29
    have hmh29 : mM h29 s (mUp A 0 (eUp (eUp (eUp (eUp (eUp (eUp (eUp (eUp (eUp (A 0) (22 + p).toNat l) (22 + G.2.2.2.1).toNat (((G.1 p.toNat) - t) - l)) 0 (G.2.2.2.1 + 1)) 3 (((G.2.2.1 1 + G.2.2.1 5)) + t)) 6 (((G.2.2.1 3 + G.2.2.1 7)) + 1)) 7 1) 18 ((G.2.2.1 4) + 1)) 19 ((G.2.2.1 5) + t)) 21 ((G.2.2.1 7) + 1))) := mM_0 hmh28 eh29 oh29 ⟨rfl, rfl, rfl, rfl, rfl, rfl, rfl, rfl⟩
    have frh29 : mFr h h29 := mFr_a frh28 (by decide) oh29
    refine eW_aload_n 189 rfl rfl rfl ?_
    refine eW_getfield 192 rfl rfl (Nat.ble_eq_true_of_le (by omega)) rfl hmh29.1 rfl ⟨rfl, fun _ h9 => nomatch h9⟩ ?_
    refine eW_iconst 193 rfl rfl ?_
    refine eW_iconst 194 rfl rfl ?_
    refine eW_aload_n 195 rfl rfl rfl ?_
    refine eW_getfield 198 rfl rfl (Nat.ble_eq_true_of_le (by omega)) rfl hmh29.1 rfl ⟨rfl, fun _ h9 => nomatch h9⟩ ?_
    refine eW_iconst 199 rfl rfl ?_
    refine eW_iaload 200 rfl rfl 1 (Nat.ble_eq_true_of_le (by omega)) (show h29 64 = .inl (0, 62, .inl (eIA (eUp (eUp (eUp (eUp (eUp (eUp (eUp (eUp (eUp (A 0) (22 + p).toNat l) (22 + G.2.2.2.1).toNat (((G.1 p.toNat) - t) - l)) 0 (G.2.2.2.1 + 1)) 3 (((G.2.2.1 1 + G.2.2.1 5)) + t)) 6 (((G.2.2.1 3 + G.2.2.1 7)) + 1)) 7 1) 18 ((G.2.2.1 4) + 1)) 19 ((G.2.2.1 5) + t)) 21 ((G.2.2.1 7) + 1)))) from hmh29.2.1) (by omega) (by omega) (by unfold i32; omega) (congrArg Int32.ofInt (Eq.trans (eUp_ne (by decide)) (Eq.trans (eUp_ne (by decide)) (Eq.trans (eUp_ne (by decide)) (Eq.trans (eUp_ne (by decide)) (Eq.trans (eUp_ne (by decide)) (Eq.trans (eUp_ne (by decide)) (Eq.trans (eUp_ne (by decide)) (Eq.trans (eUp_ne (by omega)) (Eq.trans (eUp_ne (by omega)) (hr.2.1.trans ht0))))))))))) ?_
    refine eW_isub 201 rfl rfl ?_
    refine eW_iastore 202 rfl rfl (Nat.ble_eq_true_of_le (by omega)) (show h29 64 = .inl (0, 62, .inl (eIA (eUp (eUp (eUp (eUp (eUp (eUp (eUp (eUp (eUp (A 0) (22 + p).toNat l) (22 + G.2.2.2.1).toNat (((G.1 p.toNat) - t) - l)) 0 (G.2.2.2.1 + 1)) 3 (((G.2.2.1 1 + G.2.2.1 5)) + t)) 6 (((G.2.2.1 3 + G.2.2.1 7)) + 1)) 7 1) 18 ((G.2.2.1 4) + 1)) 19 ((G.2.2.1 5) + t)) 21 ((G.2.2.1 7) + 1)))) from hmh29.2.1) (by omega) (by omega) (by unfold i32; omega) rfl ?_
    intro h30 eh30 oh30
    have hmh30 : mM h30 s (mUp A 0 (eUp (eUp (eUp (eUp (eUp (eUp (eUp (eUp (eUp (eUp (A 0) (22 + p).toNat l) (22 + G.2.2.2.1).toNat (((G.1 p.toNat) - t) - l)) 0 (G.2.2.2.1 + 1)) 3 (((G.2.2.1 1 + G.2.2.1 5)) + t)) 6 (((G.2.2.1 3 + G.2.2.1 7)) + 1)) 7 1) 18 ((G.2.2.1 4) + 1)) 19 ((G.2.2.1 5) + t)) 21 ((G.2.2.1 7) + 1)) 1 (1 - 1))) := mM_0 hmh29 eh30 oh30 ⟨rfl, rfl, rfl, rfl, rfl, rfl, rfl, rfl⟩
    have frh30 : mFr h h30 := mFr_a frh29 (by decide) oh30
    refine eW_ret rfl rfl ?_
    refine ⟨_, rfl, _, ⟨hmh30, frh30⟩, ?_⟩
    have hM9 : gMake G (p, t, l) = (eUp (eUp G.1 p.toNat l) G.2.2.2.1.toNat (G.1 p.toNat - t - l), G.2.1, gTls G t, G.2.2.2.1 + 1, 1 - G.2.2.2.2.1, G.2.2.2.2.2) := by
      unfold gMake gCut
      dsimp only
      rw [decide_eq_true (by omega : 0 < G.1 p.toNat - t - l), decide_eq_false (by omega : ¬ l = 0)]
    have hw := gWin_c (gI_make hI hM)
    rw [hM9] at hw
    dsimp only at hw
    rw [hM9]
    refine ⟨(Eq.trans (eUp_ne (by decide)) (Eq.trans (eUp_ne (by decide)) (Eq.trans (eUp_ne (by decide)) (Eq.trans (eUp_ne (by decide)) (Eq.trans (eUp_ne (by decide)) (Eq.trans (eUp_ne (by decide)) (Eq.trans (eUp_ne (by decide)) (eUp_eq rfl)))))))), (by rw [ht0]; exact (eUp_eq rfl)), (Eq.trans (eUp_ne (by decide)) (Eq.trans (eUp_ne (by decide)) (Eq.trans (eUp_ne (by decide)) (Eq.trans (eUp_ne (by decide)) (Eq.trans (eUp_ne (by decide)) (Eq.trans (eUp_ne (by decide)) (Eq.trans (eUp_ne (by decide)) (Eq.trans (eUp_ne (by decide)) (Eq.trans (eUp_ne (by omega)) (Eq.trans (eUp_ne (by omega)) hr.2.2.1)))))))))), (by have e9 : (eUp (eUp (eUp (eUp (eUp (eUp (eUp (eUp (eUp (eUp (A 0) (22 + p).toNat l) (22 + G.2.2.2.1).toNat (((G.1 p.toNat) - t) - l)) 0 (G.2.2.2.1 + 1)) 3 (((G.2.2.1 1 + G.2.2.1 5)) + t)) 6 (((G.2.2.1 3 + G.2.2.1 7)) + 1)) 7 1) 18 ((G.2.2.1 4) + 1)) 19 ((G.2.2.1 5) + t)) 21 ((G.2.2.1 7) + 1)) 1 (1 - 1)) 3 = ((G.2.2.1 1 + G.2.2.1 5)) + t := (Eq.trans (eUp_ne (by decide)) (Eq.trans (eUp_ne (by decide)) (Eq.trans (eUp_ne (by decide)) (Eq.trans (eUp_ne (by decide)) (Eq.trans (eUp_ne (by decide)) (Eq.trans (eUp_ne (by decide)) (eUp_eq rfl))))))); exact e9.trans (show (((G.2.2.1 1 + G.2.2.1 5)) + t : Int) = gTls G t 1 + gTls G t 5 by first | rfl | omega)), (Eq.trans (eUp_ne (by decide)) (Eq.trans (eUp_ne (by decide)) (Eq.trans (eUp_ne (by decide)) (Eq.trans (eUp_ne (by decide)) (Eq.trans (eUp_ne (by decide)) (Eq.trans (eUp_ne (by decide)) (Eq.trans (eUp_ne (by decide)) (Eq.trans (eUp_ne (by decide)) (Eq.trans (eUp_ne (by omega)) (Eq.trans (eUp_ne (by omega)) hr.2.2.2.2.1)))))))))), (Eq.trans (eUp_ne (by decide)) (Eq.trans (eUp_ne (by decide)) (Eq.trans (eUp_ne (by decide)) (Eq.trans (eUp_ne (by decide)) (Eq.trans (eUp_ne (by decide)) (Eq.trans (eUp_ne (by decide)) (Eq.trans (eUp_ne (by decide)) (Eq.trans (eUp_ne (by decide)) (Eq.trans (eUp_ne (by omega)) (Eq.trans (eUp_ne (by omega)) hr.2.2.2.2.2.1)))))))))), (by have e9 : (eUp (eUp (eUp (eUp (eUp (eUp (eUp (eUp (eUp (eUp (A 0) (22 + p).toNat l) (22 + G.2.2.2.1).toNat (((G.1 p.toNat) - t) - l)) 0 (G.2.2.2.1 + 1)) 3 (((G.2.2.1 1 + G.2.2.1 5)) + t)) 6 (((G.2.2.1 3 + G.2.2.1 7)) + 1)) 7 1) 18 ((G.2.2.1 4) + 1)) 19 ((G.2.2.1 5) + t)) 21 ((G.2.2.1 7) + 1)) 1 (1 - 1)) 6 = ((G.2.2.1 3 + G.2.2.1 7)) + 1 := (Eq.trans (eUp_ne (by decide)) (Eq.trans (eUp_ne (by decide)) (Eq.trans (eUp_ne (by decide)) (Eq.trans (eUp_ne (by decide)) (Eq.trans (eUp_ne (by decide)) (eUp_eq rfl)))))); exact e9.trans (show (((G.2.2.1 3 + G.2.2.1 7)) + 1 : Int) = gTls G t 3 + gTls G t 7 by first | rfl | omega)), (by have e9 : (eUp (eUp (eUp (eUp (eUp (eUp (eUp (eUp (eUp (eUp (A 0) (22 + p).toNat l) (22 + G.2.2.2.1).toNat (((G.1 p.toNat) - t) - l)) 0 (G.2.2.2.1 + 1)) 3 (((G.2.2.1 1 + G.2.2.1 5)) + t)) 6 (((G.2.2.1 3 + G.2.2.1 7)) + 1)) 7 1) 18 ((G.2.2.1 4) + 1)) 19 ((G.2.2.1 5) + t)) 21 ((G.2.2.1 7) + 1)) 1 (1 - 1)) 7 = 1 := (Eq.trans (eUp_ne (by decide)) (Eq.trans (eUp_ne (by decide)) (Eq.trans (eUp_ne (by decide)) (Eq.trans (eUp_ne (by decide)) (eUp_eq rfl))))); exact e9.trans (show (1 : Int) = gWin (eUp (eUp G.1 p.toNat l) G.2.2.2.1.toNat (G.1 p.toNat - t - l), G.2.1, gTls G t, G.2.2.2.1 + 1, 1 - G.2.2.2.2.1, G.2.2.2.2.2) by first | rfl | omega)), eL6 (Eq.trans (eUp_ne (by decide)) (Eq.trans (eUp_ne (by decide)) (Eq.trans (eUp_ne (by decide)) (Eq.trans (eUp_ne (by decide)) (Eq.trans (eUp_ne (by decide)) (Eq.trans (eUp_ne (by decide)) (Eq.trans (eUp_ne (by decide)) (Eq.trans (eUp_ne (by decide)) (Eq.trans (eUp_ne (by omega)) (Eq.trans (eUp_ne (by omega)) (hr.2.2.2.2.2.2.2.2.1 0 (by decide)))))))))))) (Eq.trans (eUp_ne (by decide)) (Eq.trans (eUp_ne (by decide)) (Eq.trans (eUp_ne (by decide)) (Eq.trans (eUp_ne (by decide)) (Eq.trans (eUp_ne (by decide)) (Eq.trans (eUp_ne (by decide)) (Eq.trans (eUp_ne (by decide)) (Eq.trans (eUp_ne (by decide)) (Eq.trans (eUp_ne (by omega)) (Eq.trans (eUp_ne (by omega)) (hr.2.2.2.2.2.2.2.2.1 1 (by decide)))))))))))) (Eq.trans (eUp_ne (by decide)) (Eq.trans (eUp_ne (by decide)) (Eq.trans (eUp_ne (by decide)) (Eq.trans (eUp_ne (by decide)) (Eq.trans (eUp_ne (by decide)) (Eq.trans (eUp_ne (by decide)) (Eq.trans (eUp_ne (by decide)) (Eq.trans (eUp_ne (by decide)) (Eq.trans (eUp_ne (by omega)) (Eq.trans (eUp_ne (by omega)) (hr.2.2.2.2.2.2.2.2.1 2 (by decide)))))))))))) (Eq.trans (eUp_ne (by decide)) (Eq.trans (eUp_ne (by decide)) (Eq.trans (eUp_ne (by decide)) (Eq.trans (eUp_ne (by decide)) (Eq.trans (eUp_ne (by decide)) (Eq.trans (eUp_ne (by decide)) (Eq.trans (eUp_ne (by decide)) (Eq.trans (eUp_ne (by decide)) (Eq.trans (eUp_ne (by omega)) (Eq.trans (eUp_ne (by omega)) (hr.2.2.2.2.2.2.2.2.1 3 (by decide)))))))))))) (Eq.trans (eUp_ne (by decide)) (Eq.trans (eUp_ne (by decide)) (Eq.trans (eUp_ne (by decide)) (Eq.trans (eUp_ne (by decide)) (Eq.trans (eUp_ne (by decide)) (Eq.trans (eUp_ne (by decide)) (Eq.trans (eUp_ne (by decide)) (Eq.trans (eUp_ne (by decide)) (Eq.trans (eUp_ne (by omega)) (Eq.trans (eUp_ne (by omega)) (hr.2.2.2.2.2.2.2.2.1 4 (by decide)))))))))))) (Eq.trans (eUp_ne (by decide)) (Eq.trans (eUp_ne (by decide)) (Eq.trans (eUp_ne (by decide)) (Eq.trans (eUp_ne (by decide)) (Eq.trans (eUp_ne (by decide)) (Eq.trans (eUp_ne (by decide)) (Eq.trans (eUp_ne (by decide)) (Eq.trans (eUp_ne (by decide)) (Eq.trans (eUp_ne (by omega)) (Eq.trans (eUp_ne (by omega)) (hr.2.2.2.2.2.2.2.2.1 5 (by decide)))))))))))), eL8 (by have e9 : (eUp (eUp (eUp (eUp (eUp (eUp (eUp (eUp (eUp (eUp (A 0) (22 + p).toNat l) (22 + G.2.2.2.1).toNat (((G.1 p.toNat) - t) - l)) 0 (G.2.2.2.1 + 1)) 3 (((G.2.2.1 1 + G.2.2.1 5)) + t)) 6 (((G.2.2.1 3 + G.2.2.1 7)) + 1)) 7 1) 18 ((G.2.2.1 4) + 1)) 19 ((G.2.2.1 5) + t)) 21 ((G.2.2.1 7) + 1)) 1 (1 - 1)) 14 = G.2.2.1 0 := (Eq.trans (eUp_ne (by decide)) (Eq.trans (eUp_ne (by decide)) (Eq.trans (eUp_ne (by decide)) (Eq.trans (eUp_ne (by decide)) (Eq.trans (eUp_ne (by decide)) (Eq.trans (eUp_ne (by decide)) (Eq.trans (eUp_ne (by decide)) (Eq.trans (eUp_ne (by decide)) (Eq.trans (eUp_ne (by omega)) (Eq.trans (eUp_ne (by omega)) (hr.2.2.2.2.2.2.2.2.2.1 0 (by decide)))))))))))); exact e9.trans (show (G.2.2.1 0 : Int) = gTls G t 0 by first | rfl | omega)) (by have e9 : (eUp (eUp (eUp (eUp (eUp (eUp (eUp (eUp (eUp (eUp (A 0) (22 + p).toNat l) (22 + G.2.2.2.1).toNat (((G.1 p.toNat) - t) - l)) 0 (G.2.2.2.1 + 1)) 3 (((G.2.2.1 1 + G.2.2.1 5)) + t)) 6 (((G.2.2.1 3 + G.2.2.1 7)) + 1)) 7 1) 18 ((G.2.2.1 4) + 1)) 19 ((G.2.2.1 5) + t)) 21 ((G.2.2.1 7) + 1)) 1 (1 - 1)) 15 = G.2.2.1 1 := (Eq.trans (eUp_ne (by decide)) (Eq.trans (eUp_ne (by decide)) (Eq.trans (eUp_ne (by decide)) (Eq.trans (eUp_ne (by decide)) (Eq.trans (eUp_ne (by decide)) (Eq.trans (eUp_ne (by decide)) (Eq.trans (eUp_ne (by decide)) (Eq.trans (eUp_ne (by decide)) (Eq.trans (eUp_ne (by omega)) (Eq.trans (eUp_ne (by omega)) (hr.2.2.2.2.2.2.2.2.2.1 1 (by decide)))))))))))); exact e9.trans (show (G.2.2.1 1 : Int) = gTls G t 1 by first | rfl | omega)) (by have e9 : (eUp (eUp (eUp (eUp (eUp (eUp (eUp (eUp (eUp (eUp (A 0) (22 + p).toNat l) (22 + G.2.2.2.1).toNat (((G.1 p.toNat) - t) - l)) 0 (G.2.2.2.1 + 1)) 3 (((G.2.2.1 1 + G.2.2.1 5)) + t)) 6 (((G.2.2.1 3 + G.2.2.1 7)) + 1)) 7 1) 18 ((G.2.2.1 4) + 1)) 19 ((G.2.2.1 5) + t)) 21 ((G.2.2.1 7) + 1)) 1 (1 - 1)) 16 = G.2.2.1 2 := (Eq.trans (eUp_ne (by decide)) (Eq.trans (eUp_ne (by decide)) (Eq.trans (eUp_ne (by decide)) (Eq.trans (eUp_ne (by decide)) (Eq.trans (eUp_ne (by decide)) (Eq.trans (eUp_ne (by decide)) (Eq.trans (eUp_ne (by decide)) (Eq.trans (eUp_ne (by decide)) (Eq.trans (eUp_ne (by omega)) (Eq.trans (eUp_ne (by omega)) (hr.2.2.2.2.2.2.2.2.2.1 2 (by decide)))))))))))); exact e9.trans (show (G.2.2.1 2 : Int) = gTls G t 2 by first | rfl | omega)) (by have e9 : (eUp (eUp (eUp (eUp (eUp (eUp (eUp (eUp (eUp (eUp (A 0) (22 + p).toNat l) (22 + G.2.2.2.1).toNat (((G.1 p.toNat) - t) - l)) 0 (G.2.2.2.1 + 1)) 3 (((G.2.2.1 1 + G.2.2.1 5)) + t)) 6 (((G.2.2.1 3 + G.2.2.1 7)) + 1)) 7 1) 18 ((G.2.2.1 4) + 1)) 19 ((G.2.2.1 5) + t)) 21 ((G.2.2.1 7) + 1)) 1 (1 - 1)) 17 = G.2.2.1 3 := (Eq.trans (eUp_ne (by decide)) (Eq.trans (eUp_ne (by decide)) (Eq.trans (eUp_ne (by decide)) (Eq.trans (eUp_ne (by decide)) (Eq.trans (eUp_ne (by decide)) (Eq.trans (eUp_ne (by decide)) (Eq.trans (eUp_ne (by decide)) (Eq.trans (eUp_ne (by decide)) (Eq.trans (eUp_ne (by omega)) (Eq.trans (eUp_ne (by omega)) (hr.2.2.2.2.2.2.2.2.2.1 3 (by decide)))))))))))); exact e9.trans (show (G.2.2.1 3 : Int) = gTls G t 3 by first | rfl | omega)) (by have e9 : (eUp (eUp (eUp (eUp (eUp (eUp (eUp (eUp (eUp (eUp (A 0) (22 + p).toNat l) (22 + G.2.2.2.1).toNat (((G.1 p.toNat) - t) - l)) 0 (G.2.2.2.1 + 1)) 3 (((G.2.2.1 1 + G.2.2.1 5)) + t)) 6 (((G.2.2.1 3 + G.2.2.1 7)) + 1)) 7 1) 18 ((G.2.2.1 4) + 1)) 19 ((G.2.2.1 5) + t)) 21 ((G.2.2.1 7) + 1)) 1 (1 - 1)) 18 = (G.2.2.1 4) + 1 := (Eq.trans (eUp_ne (by decide)) (Eq.trans (eUp_ne (by decide)) (Eq.trans (eUp_ne (by decide)) (eUp_eq rfl)))); exact e9.trans (show ((G.2.2.1 4) + 1 : Int) = gTls G t 4 by first | rfl | omega)) (by have e9 : (eUp (eUp (eUp (eUp (eUp (eUp (eUp (eUp (eUp (eUp (A 0) (22 + p).toNat l) (22 + G.2.2.2.1).toNat (((G.1 p.toNat) - t) - l)) 0 (G.2.2.2.1 + 1)) 3 (((G.2.2.1 1 + G.2.2.1 5)) + t)) 6 (((G.2.2.1 3 + G.2.2.1 7)) + 1)) 7 1) 18 ((G.2.2.1 4) + 1)) 19 ((G.2.2.1 5) + t)) 21 ((G.2.2.1 7) + 1)) 1 (1 - 1)) 19 = (G.2.2.1 5) + t := (Eq.trans (eUp_ne (by decide)) (Eq.trans (eUp_ne (by decide)) (eUp_eq rfl))); exact e9.trans (show ((G.2.2.1 5) + t : Int) = gTls G t 5 by first | rfl | omega)) (by have e9 : (eUp (eUp (eUp (eUp (eUp (eUp (eUp (eUp (eUp (eUp (A 0) (22 + p).toNat l) (22 + G.2.2.2.1).toNat (((G.1 p.toNat) - t) - l)) 0 (G.2.2.2.1 + 1)) 3 (((G.2.2.1 1 + G.2.2.1 5)) + t)) 6 (((G.2.2.1 3 + G.2.2.1 7)) + 1)) 7 1) 18 ((G.2.2.1 4) + 1)) 19 ((G.2.2.1 5) + t)) 21 ((G.2.2.1 7) + 1)) 1 (1 - 1)) 20 = G.2.2.1 6 := (Eq.trans (eUp_ne (by decide)) (Eq.trans (eUp_ne (by decide)) (Eq.trans (eUp_ne (by decide)) (Eq.trans (eUp_ne (by decide)) (Eq.trans (eUp_ne (by decide)) (Eq.trans (eUp_ne (by decide)) (Eq.trans (eUp_ne (by decide)) (Eq.trans (eUp_ne (by decide)) (Eq.trans (eUp_ne (by omega)) (Eq.trans (eUp_ne (by omega)) (hr.2.2.2.2.2.2.2.2.2.1 6 (by decide)))))))))))); exact e9.trans (show (G.2.2.1 6 : Int) = gTls G t 6 by first | rfl | omega)) (by have e9 : (eUp (eUp (eUp (eUp (eUp (eUp (eUp (eUp (eUp (eUp (A 0) (22 + p).toNat l) (22 + G.2.2.2.1).toNat (((G.1 p.toNat) - t) - l)) 0 (G.2.2.2.1 + 1)) 3 (((G.2.2.1 1 + G.2.2.1 5)) + t)) 6 (((G.2.2.1 3 + G.2.2.1 7)) + 1)) 7 1) 18 ((G.2.2.1 4) + 1)) 19 ((G.2.2.1 5) + t)) 21 ((G.2.2.1 7) + 1)) 1 (1 - 1)) 21 = (G.2.2.1 7) + 1 := (Eq.trans (eUp_ne (by decide)) (eUp_eq rfl)); exact e9.trans (show ((G.2.2.1 7) + 1 : Int) = gTls G t 7 by first | rfl | omega)), fun i hi => ?_⟩
    have hi : (i : Int) < G.2.2.2.1 + 1 := hi
    refine Eq.trans (eUp_ne (by omega)) ?_
    refine Eq.trans (eUp_ne (by omega)) ?_
    refine Eq.trans (eUp_ne (by omega)) ?_
    refine Eq.trans (eUp_ne (by omega)) ?_
    refine Eq.trans (eUp_ne (by omega)) ?_
    refine Eq.trans (eUp_ne (by omega)) ?_
    refine Eq.trans (eUp_ne (by omega)) ?_
    refine Eq.trans (eUp_ne (by omega)) ?_
    show eUp (eUp (A 0) (22 + p).toNat l) (22 + G.2.2.2.1).toNat (G.1 p.toNat - t - l) (22 + i) = eUp (eUp G.1 p.toNat l) G.2.2.2.1.toNat (G.1 p.toNat - t - l) i
    by_cases hq : i = G.2.2.2.1.toNat
    · rw [eUp_eq (by omega), eUp_eq hq]
    · rw [eUp_ne (by omega), eUp_ne hq]; exact (eUp_sh (by omega) i).trans (eUp_cg (hr.2.2.2.2.2.2.2.2.2.2 i (by omega)))
theorem m_takes {d N : Nat} {h : eHp} {s : Nat → Int} {A : Nat → Nat → Int} (hm : mM h s A) (hN : 75 ≤ N) {c : Int} {G : eGd} (hr : rR G (A 0)) (hI : gI c G) {p t l : Int} (hM : gMay G (p, t, l)) : eSp (d + 2) eM_X7_takes [.ref 63, vI p, vI t, vI l] N h (eChg none N (fun h' => ∃ g', mD h s (mUp A 0 g') h' ∧ rR (gMake G (p, t, l)) g')) := by
  rcases hI.2.1 with h9 | h9
  · exact m_takes_0 hm hN hr hI hM h9
  · exact m_takes_1 hm hN hr hI hM h9
