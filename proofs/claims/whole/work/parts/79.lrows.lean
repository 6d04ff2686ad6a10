/-! the law's bytes are its instructions -/
theorem fa_td {α : Type} {R : α → Prop} {l : List α} (a n : Nat) (h1 : ∀ q ∈ (l.drop a).take n, R q) (h2 : ∀ q ∈ l.drop (a + n), R q) : ∀ q ∈ l.drop a, R q := fun q hq => by
  rw [← List.take_append_drop n (l.drop a), List.drop_drop] at hq
  rcases List.mem_append.mp hq with h | h
  · exact h1 q h
  · exact h2 q h
def lrR (q : Nat × Instr × Nat) : Prop := decode cL_law q.1 = .ok (q.2.1, eSz q.1 q.2.1) ∧ eTgOk q.1 q.2.2 q.2.1 = true
theorem lr_0 : ∀ q ∈ (eT_L_law.drop 0).take 40, lrR q := by unfold lrR; decide +kernel
theorem lr_1 : ∀ q ∈ (eT_L_law.drop 40).take 40, lrR q := by unfold lrR; decide +kernel
theorem lr_2 : ∀ q ∈ (eT_L_law.drop 80).take 40, lrR q := by unfold lrR; decide +kernel
theorem lr_3 : ∀ q ∈ (eT_L_law.drop 120).take 40, lrR q := by unfold lrR; decide +kernel
theorem lr_4 : ∀ q ∈ (eT_L_law.drop 160).take 40, lrR q := by unfold lrR; decide +kernel
theorem lr_5 : ∀ q ∈ (eT_L_law.drop 200).take 40, lrR q := by unfold lrR; decide +kernel
theorem lr_6 : ∀ q ∈ (eT_L_law.drop 240).take 40, lrR q := by unfold lrR; decide +kernel
theorem lr_7 : ∀ q ∈ (eT_L_law.drop 280).take 40, lrR q := by unfold lrR; decide +kernel
theorem lr_8 : ∀ q ∈ (eT_L_law.drop 320).take 40, lrR q := by unfold lrR; decide +kernel
theorem lr_9 : ∀ q ∈ (eT_L_law.drop 360).take 40, lrR q := by unfold lrR; decide +kernel
theorem lr_10 : ∀ q ∈ (eT_L_law.drop 400).take 40, lrR q := by unfold lrR; decide +kernel
theorem lr_11 : ∀ q ∈ (eT_L_law.drop 440).take 40, lrR q := by unfold lrR; decide +kernel
theorem lr_12 : ∀ q ∈ (eT_L_law.drop 480).take 40, lrR q := by unfold lrR; decide +kernel
theorem lr_13 : ∀ q ∈ (eT_L_law.drop 520).take 40, lrR q := by unfold lrR; decide +kernel
theorem lr_14 : ∀ q ∈ (eT_L_law.drop 560).take 40, lrR q := by unfold lrR; decide +kernel
theorem lr_15 : ∀ q ∈ (eT_L_law.drop 600).take 40, lrR q := by unfold lrR; decide +kernel
theorem lr_16 : ∀ q ∈ (eT_L_law.drop 640).take 40, lrR q := by unfold lrR; decide +kernel
theorem lr_17 : ∀ q ∈ (eT_L_law.drop 680).take 40, lrR q := by unfold lrR; decide +kernel
theorem lr_18 : ∀ q ∈ (eT_L_law.drop 720).take 40, lrR q := by unfold lrR; decide +kernel
theorem lr_19 : ∀ q ∈ (eT_L_law.drop 760).take 40, lrR q := by unfold lrR; decide +kernel
theorem lr_20 : ∀ q ∈ (eT_L_law.drop 800).take 40, lrR q := by unfold lrR; decide +kernel
theorem lr_21 : ∀ q ∈ (eT_L_law.drop 840).take 40, lrR q := by unfold lrR; decide +kernel
theorem lr_22 : ∀ q ∈ (eT_L_law.drop 880).take 40, lrR q := by unfold lrR; decide +kernel
theorem lr_23 : ∀ q ∈ (eT_L_law.drop 920).take 40, lrR q := by unfold lrR; decide +kernel
theorem lr_24 : ∀ q ∈ (eT_L_law.drop 960).take 40, lrR q := by unfold lrR; decide +kernel
theorem lr_25 : ∀ q ∈ (eT_L_law.drop 1000).take 40, lrR q := by unfold lrR; decide +kernel
theorem lr_26 : ∀ q ∈ (eT_L_law.drop 1040).take 40, lrR q := by unfold lrR; decide +kernel
theorem lr_27 : ∀ q ∈ (eT_L_law.drop 1080).take 40, lrR q := by unfold lrR; decide +kernel
theorem lr_e : ∀ q ∈ eT_L_law.drop 1120, lrR q := fun q hq => absurd hq (by rw [show eT_L_law.drop 1120 = [] from by decide +kernel]; exact List.not_mem_nil)
theorem lrd_27 : ∀ q ∈ eT_L_law.drop 1080, lrR q := fa_td 1080 40 lr_27 lr_e
theorem lrd_26 : ∀ q ∈ eT_L_law.drop 1040, lrR q := fa_td 1040 40 lr_26 lrd_27
theorem lrd_25 : ∀ q ∈ eT_L_law.drop 1000, lrR q := fa_td 1000 40 lr_25 lrd_26
theorem lrd_24 : ∀ q ∈ eT_L_law.drop 960, lrR q := fa_td 960 40 lr_24 lrd_25
theorem lrd_23 : ∀ q ∈ eT_L_law.drop 920, lrR q := fa_td 920 40 lr_23 lrd_24
theorem lrd_22 : ∀ q ∈ eT_L_law.drop 880, lrR q := fa_td 880 40 lr_22 lrd_23
theorem lrd_21 : ∀ q ∈ eT_L_law.drop 840, lrR q := fa_td 840 40 lr_21 lrd_22
theorem lrd_20 : ∀ q ∈ eT_L_law.drop 800, lrR q := fa_td 800 40 lr_20 lrd_21
theorem lrd_19 : ∀ q ∈ eT_L_law.drop 760, lrR q := fa_td 760 40 lr_19 lrd_20
theorem lrd_18 : ∀ q ∈ eT_L_law.drop 720, lrR q := fa_td 720 40 lr_18 lrd_19
theorem lrd_17 : ∀ q ∈ eT_L_law.drop 680, lrR q := fa_td 680 40 lr_17 lrd_18
theorem lrd_16 : ∀ q ∈ eT_L_law.drop 640, lrR q := fa_td 640 40 lr_16 lrd_17
theorem lrd_15 : ∀ q ∈ eT_L_law.drop 600, lrR q := fa_td 600 40 lr_15 lrd_16
theorem lrd_14 : ∀ q ∈ eT_L_law.drop 560, lrR q := fa_td 560 40 lr_14 lrd_15
theorem lrd_13 : ∀ q ∈ eT_L_law.drop 520, lrR q := fa_td 520 40 lr_13 lrd_14
theorem lrd_12 : ∀ q ∈ eT_L_law.drop 480, lrR q := fa_td 480 40 lr_12 lrd_13
theorem lrd_11 : ∀ q ∈ eT_L_law.drop 440, lrR q := fa_td 440 40 lr_11 lrd_12
theorem lrd_10 : ∀ q ∈ eT_L_law.drop 400, lrR q := fa_td 400 40 lr_10 lrd_11
theorem lrd_9 : ∀ q ∈ eT_L_law.drop 360, lrR q := fa_td 360 40 lr_9 lrd_10
theorem lrd_8 : ∀ q ∈ eT_L_law.drop 320, lrR q := fa_td 320 40 lr_8 lrd_9
theorem lrd_7 : ∀ q ∈ eT_L_law.drop 280, lrR q := fa_td 280 40 lr_7 lrd_8
theorem lrd_6 : ∀ q ∈ eT_L_law.drop 240, lrR q := fa_td 240 40 lr_6 lrd_7
theorem lrd_5 : ∀ q ∈ eT_L_law.drop 200, lrR q := fa_td 200 40 lr_5 lrd_6
theorem lrd_4 : ∀ q ∈ eT_L_law.drop 160, lrR q := fa_td 160 40 lr_4 lrd_5
theorem lrd_3 : ∀ q ∈ eT_L_law.drop 120, lrR q := fa_td 120 40 lr_3 lrd_4
theorem lrd_2 : ∀ q ∈ eT_L_law.drop 80, lrR q := fa_td 80 40 lr_2 lrd_3
theorem lrd_1 : ∀ q ∈ eT_L_law.drop 40, lrR q := fa_td 40 40 lr_1 lrd_2
theorem lrd_0 : ∀ q ∈ eT_L_law.drop 0, lrR q := fa_td 0 40 lr_0 lrd_1
theorem eRows_L_law : eRows eM_L_law := lrd_0
