/-! a call of the class, then of the model: what stays, what is told -/
def lFI (c : Int) (N k z : Nat) (h : eHp) : Prop := ∃ g', N = 75 + g' ∧ lI (c + 30) g' h ∧ k ≤ 10 ∧ z ≤ 2000
def lRl : Type := eXs → eGd → eGd → Int → Int → (Nat → eGd) → eVs → eTx → Prop
def lF (Rel : eXs → eGd → eGd → Int → Int → (Nat → eGd) → eVs → eTx → Prop) (h : eHp) : Prop := ∃ X' G' O' Q' ya' yz' Ks' V' S' T', cW h X' G' O' Q' ya' yz' Ks' V' S' T' ∧ Rel X' G' Q' ya' yz' Ks' V' T'
/-- behind a call of the class that makes no name -/
def lFF (g : Nat) (h : eHp) (Rel : eXs → eGd → eGd → Int → Int → (Nat → eGd) → eVs → eTx → Prop) (N' : Nat) (h' : eHp) (k z : Nat) : Prop := N' = 75 + g ∧ k ≤ 1 ∧ z ≤ 6 ∧ cFr h h' ∧ lF Rel h'
theorem lX_cA {d g : Nat} {M : eM} {as : List Value} {h : eHp} {r : Int ⊕ String} {F : eHp → Prop} {Rel : eXs → eGd → eGd → Int → Int → (Nat → eGd) → eVs → eTx → Prop} (hF : ∀ h', F h' → lF Rel h') (k : eSp d M as (75 + g) h (cA r (75 + g) h F)) : eSp d M as (75 + g) h (lX 73 (fun a => vI a) r (75 + g) h (lFF g h Rel)) := by
  refine k.imp (fun q hq => ?_)
  obtain ⟨h', e, hc, hf⟩ := hq
  cases r with
  | inl a => exact ⟨75 + g, h', 0, 0, e, Nat.le_refl _, hc 73 (by omega), rfl, by omega, by omega, hc, hF h' hf⟩
  | inr E => exact ⟨75 + g, h', 1, 6, e, Nat.le_refl _, hc 73 (by omega), rfl, by omega, by omega, hc, hF h' hf⟩
theorem lX_eAns {d g : Nat} {M : eM} {as : List Value} {h : eHp} {r : Int ⊕ String} {Rel : eXs → eGd → eGd → Int → Int → (Nat → eGd) → eVs → eTx → Prop} (hF : lF Rel h) (k : eSp d M as (75 + g) h (eAns r (75 + g) h)) : eSp d M as (75 + g) h (lX 73 (fun a => vI a) r (75 + g) h (lFF g h Rel)) := by
  refine k.imp (fun q hq => ?_)
  cases r with
  | inl a => exact ⟨75 + g, h, 0, 0, hq, Nat.le_refl _, rfl, rfl, by omega, by omega, fun _ _ => rfl, hF⟩
  | inr E => exact ⟨75 + g, h, 1, 6, hq, Nat.le_refl _, rfl, rfl, by omega, by omega, fun _ _ => rfl, hF⟩
theorem lX_eAnD {d g : Nat} {M : eM} {as : List Value} {h : eHp} {r : UInt64 ⊕ String} {Rel : eXs → eGd → eGd → Int → Int → (Nat → eGd) → eVs → eTx → Prop} (hF : lF Rel h) (k : eSp d M as (75 + g) h (eAnD r (75 + g) h)) : eSp d M as (75 + g) h (lX 74 Value.double r (75 + g) h (lFF g h Rel)) := by
  refine k.imp (fun q hq => ?_)
  cases r with
  | inl a => exact ⟨75 + g, h, 0, 0, hq, Nat.le_refl _, rfl, rfl, by omega, by omega, fun _ _ => rfl, hF⟩
  | inr E => exact ⟨75 + g, h, 1, 6, hq, Nat.le_refl _, rfl, rfl, by omega, by omega, fun _ _ => rfl, hF⟩
theorem lX_eAnF {d g : Nat} {M : eM} {as : List Value} {h : eHp} {r : UInt32 ⊕ String} {Rel : eXs → eGd → eGd → Int → Int → (Nat → eGd) → eVs → eTx → Prop} (hF : lF Rel h) (k : eSp d M as (75 + g) h (eAnF r (75 + g) h)) : eSp d M as (75 + g) h (lX 74 Value.float r (75 + g) h (lFF g h Rel)) := by
  refine k.imp (fun q hq => ?_)
  cases r with
  | inl a => exact ⟨75 + g, h, 0, 0, hq, Nat.le_refl _, rfl, rfl, by omega, by omega, fun _ _ => rfl, hF⟩
  | inr E => exact ⟨75 + g, h, 1, 6, hq, Nat.le_refl _, rfl, rfl, by omega, by omega, fun _ _ => rfl, hF⟩
theorem lX_eOr {d g : Nat} {M : eM} {as : List Value} {h : eHp} {v : Option Int} {E : String} {Rel : eXs → eGd → eGd → Int → Int → (Nat → eGd) → eVs → eTx → Prop} (hF : lF Rel h) (k : eSp d M as (75 + g) h (eOr v E (75 + g) h)) : eSp d M as (75 + g) h (lX 73 (fun a => vI a) (eOpt v E) (75 + g) h (lFF g h Rel)) := lX_eAns hF (k.imp (fun q hq => by
  cases v with
  | none => exact hq
  | some a => exact hq))
theorem lB_eRet {d g : Nat} {M : eM} {as : List Value} {h : eHp} {v : Int} {Rel : eXs → eGd → eGd → Int → Int → (Nat → eGd) → eVs → eTx → Prop} (hF : lF Rel h) (k : eSp d M as (75 + g) h (eRet (some (vI v)) (75 + g) h)) : eSp d M as (75 + g) h (lB v (75 + g) (lFF g h Rel)) :=
  k.imp (fun _ hq => ⟨75 + g, h, 0, 0, hq, Nat.le_refl _, rfl, by omega, by omega, fun _ _ => rfl, hF⟩)
theorem lB_cA {d g : Nat} {M : eM} {as : List Value} {h : eHp} {v : Int} {F : eHp → Prop} {Rel : eXs → eGd → eGd → Int → Int → (Nat → eGd) → eVs → eTx → Prop} (hF : ∀ h', F h' → lF Rel h') (k : eSp d M as (75 + g) h (cA (.inl v) (75 + g) h F)) : eSp d M as (75 + g) h (lB v (75 + g) (lFF g h Rel)) := by
  refine k.imp (fun q hq => ?_)
  obtain ⟨h', e, hc, hf⟩ := hq
  exact ⟨75 + g, h', 0, 0, e, Nat.le_refl _, rfl, by omega, by omega, hc, hF h' hf⟩
/-- the model's answer beside the class's -/
def mAs (c : Int) (L : List Int) (Rel : eXs → eGd → eGd → Int → Int → (Nat → eGd) → eVs → eTx → Prop) (r : Int ⊕ String) (l : List String) (N : Nat) (h : eHp) : eR → Prop := fun q => ∃ h' s' A' x, q = (.inl (some (vI x)), N, h', 0, 0) ∧ mM h' s' A' ∧ mFr h h' ∧ rM r l (s' 7) x ∧ ∀ X' G' Q' ya' yz' Ks' V' T', Rel X' G' Q' ya' yz' Ks' V' T' → lRel (c + 30) X' G' Q' ya' yz' Ks' V' T' L s' A'
def mAsD (c : Int) (L : List Int) (Rel : eXs → eGd → eGd → Int → Int → (Nat → eGd) → eVs → eTx → Prop) (r : UInt64 ⊕ String) (l : List String) (N : Nat) (h : eHp) : eR → Prop := fun q => ∃ h' s' A' x, q = (.inl (some (.double x)), N, h', 0, 0) ∧ mM h' s' A' ∧ mFr h h' ∧ rM r l (s' 7) x ∧ ∀ X' G' Q' ya' yz' Ks' V' T', Rel X' G' Q' ya' yz' Ks' V' T' → lRel (c + 30) X' G' Q' ya' yz' Ks' V' T' L s' A'
def mAsF (c : Int) (L : List Int) (Rel : eXs → eGd → eGd → Int → Int → (Nat → eGd) → eVs → eTx → Prop) (r : UInt32 ⊕ String) (l : List String) (N : Nat) (h : eHp) : eR → Prop := fun q => ∃ h' s' A' x, q = (.inl (some (.float x)), N, h', 0, 0) ∧ mM h' s' A' ∧ mFr h h' ∧ rM r l (s' 7) x ∧ ∀ X' G' Q' ya' yz' Ks' V' T', Rel X' G' Q' ya' yz' Ks' V' T' → lRel (c + 30) X' G' Q' ya' yz' Ks' V' T' L s' A'
section GEN
variable {c : Int} {d g : Nat} {h : eHp} {X : eXs} {G O Q : eGd} {ya yz : Int} {Ks : Nat → eGd} {V : eVs} {S : Int × Int × Int} {T : eTx} {L : List Int} {s : Nat → Int} {A : Nat → Nat → Int}
theorem lMid {w : Nat} (J : lJ c g h X G O Q ya yz Ks V S T L s A) {g1 h1 : eHp} (hw : w = 73 ∨ w = 74) (hc : cFr h g1) (o : ∀ i, i ≠ w → h1 i = g1 i) (row : lO h1) : bW h1 g L ∧ bC g h1 ∧ mM h1 s A ∧ lO h1 := by
  obtain ⟨j1, j2, j3, j4, j5, j6⟩ := J
  have oo : ∀ i, 61 ≤ i → i ≠ w → h1 i = h i := fun i h1 h2 => (o i h2).trans (hc i h1)
  exact ⟨bW_k j2 (fun i hi => oo i (by omega) (by omega)), bC_k j3 (fun i hi => oo i (by omega) (by omega)), mM_k j4 (fun i a b => oo i (by omega) (by omega)), row⟩
theorem lO_73 (J : lJ c g h X G O Q ya yz Ks V S T L s A) {g1 h1 : eHp} (hc : cFr h g1) (o : ∀ i, i ≠ 73 → h1 i = g1 i) (row : lRow73 (h1 73)) : lO h1 := by
  obtain ⟨F, f, a, b⟩ := J.2.2.2.2.1
  obtain ⟨F1, e⟩ := row
  exact ⟨F1, f, e, ((o 74 (by omega)).trans (hc 74 (by omega))).trans b⟩
theorem lO_74 (J : lJ c g h X G O Q ya yz Ks V S T L s A) {g1 h1 : eHp} (hc : cFr h g1) (o : ∀ i, i ≠ 74 → h1 i = g1 i) (row : lRow74 (h1 74)) : lO h1 := by
  obtain ⟨F, f, a, b⟩ := J.2.2.2.2.1
  obtain ⟨F1, e⟩ := row
  exact ⟨F, F1, ((o 73 (by omega)).trans (hc 73 (by omega))).trans a, e⟩
theorem lI_fin {X' : eXs} {G' O' Q' : eGd} {ya' yz' : Int} {Ks' : Nat → eGd} {V' : eVs} {S' : Int × Int × Int} {T' : eTx} {h1 h2 : eHp} {s' : Nat → Int} {A' : Nat → Nat → Int} (hw : cW h1 X' G' O' Q' ya' yz' Ks' V' S' T') (hm : bW h1 g L ∧ bC g h1 ∧ mM h1 s A ∧ lO h1) (hf : mFr h1 h2) (hm2 : mM h2 s' A') (hR : lRel c X' G' Q' ya' yz' Ks' V' T' L s' A') : lI c g h2 :=
  ⟨X', G', O', Q', ya', yz', Ks', V', S', T', L, s', A', cW_k hw (fun i hi => hf i (by omega)), bW_k hm.1 (fun i hi => hf i (by omega)), bC_k hm.2.1 (fun i hi => hf i (by omega)), hm2, lO_k hm.2.2.2 (hf 73 (by omega)) (hf 74 (by omega)), hR⟩
theorem lGen (J : lJ c g h X G O Q ya yz Ks V S T L s A) {Rel : eXs → eGd → eGd → Int → Int → (Nat → eGd) → eVs → eTx → Prop} {M : eM} {as : List Value} {r : Int ⊕ String} {l : List String} (hm : ∀ h1, mM h1 s A → eSp d M as (75 + g) h1 (mAs c L Rel r l (75 + g) h1)) :
    ∀ N1 g1 h1 k1 z1, lFF g h Rel N1 g1 k1 z1 → (∀ i, i ≠ 73 → h1 i = g1 i) → lRow73 (h1 73) → 75 ≤ N1 ∧ (∃ fs, h1 63 = .inr (11, fs)) ∧ eSp d M as N1 h1 (lM r l N1 h1 (lFI c N1 k1 z1)) := by
  intro N1 g1 h1 k1 z1 hF o row
  obtain ⟨rfl, hk, hz, hc, X', G', O', Q', ya', yz', Ks', V', S', T', hw, hR⟩ := hF
  have hmid := lMid J (Or.inl rfl) hc o (lO_73 J hc o row)
  refine ⟨by omega, ⟨_, hmid.2.2.1.1⟩, (hm h1 hmid.2.2.1).imp (fun q hq => ?_)⟩
  obtain ⟨h', s', A', x, e, hm2, hf, hr, hR2⟩ := hq
  exact ⟨h', s', A', x, e, hm2, hf 73 (by omega), hr, g, rfl, lI_fin (cW_k hw (fun i hi => o i (by omega))) hmid hf hm2 (hR2 _ _ _ _ _ _ _ _ hR), by omega, by omega⟩
theorem lGenD (J : lJ c g h X G O Q ya yz Ks V S T L s A) {Rel : eXs → eGd → eGd → Int → Int → (Nat → eGd) → eVs → eTx → Prop} {M : eM} {as : List Value} {r : UInt64 ⊕ String} {l : List String} (hm : ∀ h1, mM h1 s A → eSp d M as (75 + g) h1 (mAsD c L Rel r l (75 + g) h1)) :
    ∀ N1 g1 h1 k1 z1, lFF g h Rel N1 g1 k1 z1 → (∀ i, i ≠ 74 → h1 i = g1 i) → lRow74 (h1 74) → 75 ≤ N1 ∧ (∃ fs, h1 63 = .inr (11, fs)) ∧ eSp d M as N1 h1 (lMD r l N1 h1 (lFI c N1 k1 z1)) := by
  intro N1 g1 h1 k1 z1 hF o row
  obtain ⟨rfl, hk, hz, hc, X', G', O', Q', ya', yz', Ks', V', S', T', hw, hR⟩ := hF
  have hmid := lMid J (Or.inr rfl) hc o (lO_74 J hc o row)
  refine ⟨by omega, ⟨_, hmid.2.2.1.1⟩, (hm h1 hmid.2.2.1).imp (fun q hq => ?_)⟩
  obtain ⟨h', s', A', x, e, hm2, hf, hr, hR2⟩ := hq
  exact ⟨h', s', A', x, e, hm2, hf 74 (by omega), hr, g, rfl, lI_fin (cW_k hw (fun i hi => o i (by omega))) hmid hf hm2 (hR2 _ _ _ _ _ _ _ _ hR), by omega, by omega⟩
theorem lGenF (J : lJ c g h X G O Q ya yz Ks V S T L s A) {Rel : eXs → eGd → eGd → Int → Int → (Nat → eGd) → eVs → eTx → Prop} {M : eM} {as : List Value} {r : UInt32 ⊕ String} {l : List String} (hm : ∀ h1, mM h1 s A → eSp d M as (75 + g) h1 (mAsF c L Rel r l (75 + g) h1)) :
    ∀ N1 g1 h1 k1 z1, lFF g h Rel N1 g1 k1 z1 → (∀ i, i ≠ 74 → h1 i = g1 i) → lRow74 (h1 74) → 75 ≤ N1 ∧ (∃ fs, h1 63 = .inr (11, fs)) ∧ eSp d M as N1 h1 (lMF r l N1 h1 (lFI c N1 k1 z1)) := by
  intro N1 g1 h1 k1 z1 hF o row
  obtain ⟨rfl, hk, hz, hc, X', G', O', Q', ya', yz', Ks', V', S', T', hw, hR⟩ := hF
  have hmid := lMid J (Or.inr rfl) hc o (lO_74 J hc o row)
  refine ⟨by omega, ⟨_, hmid.2.2.1.1⟩, (hm h1 hmid.2.2.1).imp (fun q hq => ?_)⟩
  obtain ⟨h', s', A', x, e, hm2, hf, hr, hR2⟩ := hq
  exact ⟨h', s', A', x, e, hm2, hf 74 (by omega), hr, g, rfl, lI_fin (cW_k hw (fun i hi => o i (by omega))) hmid hf hm2 (hR2 _ _ _ _ _ _ _ _ hR), by omega, by omega⟩
theorem lGenB (J : lJ c g h X G O Q ya yz Ks V S T L s A) {Rel : eXs → eGd → eGd → Int → Int → (Nat → eGd) → eVs → eTx → Prop} {M : eM} {as : List Value} {v : Int} (hm : ∀ h1, mM h1 s A → eSp d M as (75 + g) h1 (mAs c L Rel (.inl v) [] (75 + g) h1)) :
    ∀ N1 h1 k1 z1, lFF g h Rel N1 h1 k1 z1 → 75 ≤ N1 ∧ (∃ fs, h1 63 = .inr (11, fs)) ∧ eSp d M as N1 h1 (lNq v N1 (lFI c N1 k1 z1)) := by
  intro N1 h1 k1 z1 hF
  obtain ⟨rfl, hk, hz, hc, X', G', O', Q', ya', yz', Ks', V', S', T', hw, hR⟩ := hF
  have hmid := lMid J (w := 73) (Or.inl rfl) hc (fun _ _ => rfl) (lO_k J.2.2.2.2.1 (hc 73 (by omega)) (hc 74 (by omega)))
  refine ⟨by omega, ⟨_, hmid.2.2.1.1⟩, (hm h1 hmid.2.2.1).imp (fun q hq => ?_)⟩
  obtain ⟨h', s', A', x, e, hm2, hf, ⟨-, hr⟩, hR2⟩ := hq
  subst hr
  exact ⟨h', e, g, rfl, lI_fin hw hmid hf hm2 (hR2 _ _ _ _ _ _ _ _ hR), by omega, by omega⟩
/-- nothing is changed but what no promise tells of -/
def lSame (X : eXs) (G Q : eGd) (ya yz : Int) (Ks : Nat → eGd) (V : eVs) (T : eTx) : eXs → eGd → eGd → Int → Int → (Nat → eGd) → eVs → eTx → Prop := fun X' G' Q' ya' yz' Ks' V' T' => X' = X ∧ G' = G ∧ Q' = Q ∧ ya' = ya ∧ yz' = yz ∧ Ks' = Ks ∧ V' = V ∧ T' = T
theorem lSame_F {h' : eHp} {O' : eGd} {S' : Int × Int × Int} (hw : cW h' X G O' Q ya yz Ks V S' T) : lF (lSame X G Q ya yz Ks V T) h' := ⟨_, _, _, _, _, _, _, _, _, _, hw, rfl, rfl, rfl, rfl, rfl, rfl, rfl, rfl⟩
theorem lSame_R {s' : Nat → Int} {A' : Nat → Nat → Int} (hR : lRel c X G Q ya yz Ks V T L s A) (h : mSm s A s' A') : ∀ X' G' Q' ya' yz' Ks' V' T', lSame X G Q ya yz Ks V T X' G' Q' ya' yz' Ks' V' T' → lRel (c + 30) X' G' Q' ya' yz' Ks' V' T' L s' A' := by
  rintro X' G' Q' ya' yz' Ks' V' T' ⟨rfl, rfl, rfl, rfl, rfl, rfl, rfl, rfl⟩
  exact lRel_sm (lRel_mono (by omega) hR) h
/-- the model's plain answers -/
theorem mAs_1 {N : Nat} {h1 : eHp} {M : eM} {as : List Value} {b : Bool} {v w : Int} {E : String} {l : List String} (hR : lRel c X G Q ya yz Ks V T L s A) (hv : b = true → v = w) (hE : 1 = lCd l E) (k : eSp d M as N h1 (mQ w (mIf b 1 0) s A h1 N)) : eSp d M as N h1 (mAs c L (lSame X G Q ya yz Ks V T) (eIfT b E (.inl v)) l N h1) := by
  refine k.imp (fun q hq => ?_)
  obtain ⟨h', s', A', x, e, hm, hf, h7, hx, hs⟩ := hq
  refine ⟨h', s', A', x, e, hm, hf, ?_, lSame_R hR hs⟩
  cases b with
  | true => exact ⟨h7, (hx rfl).trans (hv rfl).symm⟩
  | false => exact h7.trans hE
theorem mAs_2 {N : Nat} {h1 : eHp} {M : eM} {as : List Value} {b b2 : Bool} {v w : Int} {E E2 : String} {l : List String} (hR : lRel c X G Q ya yz Ks V T L s A) (hv : b = true → b2 = true → v = w) (hE : 1 = lCd l E) (hE2 : 2 = lCd l E2) (k : eSp d M as N h1 (mQ w (mIf b 1 (mIf b2 2 0)) s A h1 N)) : eSp d M as N h1 (mAs c L (lSame X G Q ya yz Ks V T) (eIfT b E (eIfT b2 E2 (.inl v))) l N h1) := by
  refine k.imp (fun q hq => ?_)
  obtain ⟨h', s', A', x, e, hm, hf, h7, hx, hs⟩ := hq
  refine ⟨h', s', A', x, e, hm, hf, ?_, lSame_R hR hs⟩
  cases b with
  | true => cases b2 with
    | true => exact ⟨h7, (hx rfl).trans (hv rfl rfl).symm⟩
    | false => exact h7.trans hE2
  | false => exact h7.trans hE
theorem mAs_0 {N : Nat} {h1 : eHp} {M : eM} {as : List Value} {v w : Int} {l : List String} (hR : lRel c X G Q ya yz Ks V T L s A) (hv : v = w) (k : eSp d M as N h1 (mQ w 0 s A h1 N)) : eSp d M as N h1 (mAs c L (lSame X G Q ya yz Ks V T) (.inl v) l N h1) := by
  refine k.imp (fun q hq => ?_)
  obtain ⟨h', s', A', x, e, hm, hf, h7, hx, hs⟩ := hq
  exact ⟨h', s', A', x, e, hm, hf, ⟨h7, (hx rfl).trans hv.symm⟩, lSame_R hR hs⟩
theorem mAs_O {N : Nat} {h1 : eHp} {M : eM} {as : List Value} {v : Option Int} {E : String} {l : List String} (hR : lRel c X G Q ya yz Ks V T L s A) (hE : 1 = lCd l E) (k : eSp d M as N h1 (mO v 1 s A h1 N)) : eSp d M as N h1 (mAs c L (lSame X G Q ya yz Ks V T) (eOpt v E) l N h1) := by
  refine k.imp (fun q hq => ?_)
  obtain ⟨h', s', A', x, e, hm, hf, h7, hs⟩ := hq
  refine ⟨h', s', A', x, e, hm, hf, ?_, lSame_R hR hs⟩
  cases v with
  | none => exact h7.trans hE
  | some a => exact h7
theorem mAs_Z {N : Nat} {h1 : eHp} {M : eM} {as : List Value} {r : Int ⊕ String} {l : List String} (hR : lRel c X G Q ya yz Ks V T L s A) (k : eSp d M as N h1 (mZ (lCd l) r s A h1 N)) : eSp d M as N h1 (mAs c L (lSame X G Q ya yz Ks V T) r l N h1) := by
  refine k.imp (fun q hq => ?_)
  obtain ⟨h', s', A', x, e, hm, hf, h7, hs⟩ := hq
  refine ⟨h', s', A', x, e, hm, hf, ?_, lSame_R hR hs⟩
  cases r with
  | inl a => exact h7
  | inr E => exact h7
/-- an order -/
def lOp (X : eXs) (Q : eGd) (ya yz : Int) (Ks : Nat → eGd) (T : eTx) (r : gO) (K' : eGd) : eXs → eGd → eGd → Int → Int → (Nat → eGd) → eVs → eTx → Prop := fun X' G' Q' ya' yz' Ks' V' T' => X' = oX X r ∧ G' = r.2.2.2 ∧ Q' = Q ∧ ya' = (kE r.1 ya yz Ks K').1 ∧ yz' = (kE r.1 ya yz Ks K').2.1 ∧ Ks' = (kE r.1 ya yz Ks K').2.2 ∧ T' = T ∧ gVG V' r.2.2.2
theorem mAs_P {N : Nat} {h1 : eHp} {M : eM} {as : List Value} {r : gO} {K' : eGd} {f : Int → Int} {v : Int} {a : Int ⊕ String} {l : List String} (hR : lRel c X G Q ya yz Ks V T L s A) (hg : gI (c + 1) r.2.2.2) (hi : i32 r.2.1) (hE : gE G K') (hr : ∀ s7 x : Int, s7 = f r.1 → (r.1 = 0 → x = v) → rM a l s7 x) (k : eSp d M as N h1 (mOpQ r f v s A h1 N)) : eSp d M as N h1 (mAs c L (lOp X Q ya yz Ks T r K') a l N h1) := by
  refine k.imp (fun q hq => ?_)
  obtain ⟨h', s', A', x, e, hm, hf, hp⟩ := hq
  refine ⟨h', s', A', x, e, hm, hf, hr _ _ hp.1 (fun e0 => (hp.2.2.2.2.1 e0).2), ?_⟩
  rintro X' G' Q' ya' yz' Ks' V' T' ⟨rfl, rfl, rfl, rfl, rfl, rfl, rfl, hv⟩
  exact lRel_op hR hg hv hi hE hp
end GEN
