/-! The class's cells hold g; the class: isGood. -/
def inP (g : GS) (p : Nat) : Bool := decide (fst (fun i => plc g i == p) (pln g) 0 < pln g)
def DK (g : GS) (M : Mem) : Prop := ∀ k, k < 8 → M 2 k = nI (g 32 k) ∧ M 3 k = nI (g 33 k) ∧ M 4 k = nI (g 34 k) ∧ M 5 k = nI (g 35 k)
def DP (g : GS) (M : Mem) : Prop := M 1 4 = nI (pls g) ∧ (∀ p, p < pls g → M 6 p = nI (g 36 p) ∧ M 7 p = nI (g 37 p) ∧ M 8 p = nI (g 38 p) ∧ M 9 p = nI (bitsOf (fun q => ahB g q p) (pls g)) ∧ M 10 p = nI (bitsOf (fun q => ltB g p q) (pls g))) ∧ ∀ p, pls g ≤ p → M 10 p = 0
def DS (g : GS) (M : Mem) : Prop := ∀ s, s < 8 → M 12 s = nI (g 40 s) - 1 ∧ M 13 s = nI (g 41 s)
def DG (g : GS) (M : Mem) : Prop := M 14 0 = nI (g 31 11) ∧ M 14 1 = nI (g 31 12) ∧ M 14 2 = nI (g 31 13) ∧ M 14 3 = nI (g 31 14) ∧ M 14 4 = nI (g 31 15)
def DR (g : GS) (M : Mem) : Prop := M 15 1 = nI (pln g) ∧ M 15 2 = nI (bitsOf (inP g) 10) ∧ ∀ i, i < pln g → M 16 i = nI (g 42 i)
def DC (g : GS) (M : Mem) : Prop := DK g M ∧ DP g M ∧ DS g M ∧ DG g M ∧ DR g M
theorem DC.fr {g : GS} {M M' : Mem} (h : DC g M) (e : ∀ k, 1 ≤ k → k ≤ 16 → M' k = M k) : DC g M' := by
  unfold DC DK DP DS DG DR at *
  simp only [e 1 (by omega) (by omega), e 2 (by omega) (by omega), e 3 (by omega) (by omega), e 4 (by omega) (by omega), e 5 (by omega) (by omega), e 6 (by omega) (by omega), e 7 (by omega) (by omega), e 8 (by omega) (by omega), e 9 (by omega) (by omega), e 10 (by omega) (by omega), e 12 (by omega) (by omega), e 13 (by omega) (by omega), e 14 (by omega) (by omega), e 15 (by omega) (by omega), e 16 (by omega) (by omega)]
  exact h
/-- what the plan and what is told as late keep to -/
def Wp (g : GS) : Prop := (∀ i j, i < j → j < pln g → plc g i ≠ plc g j) ∧ (0 < pln g → bgn g 0 = true) ∧ (∀ p, g 39 (10 * p + p) = 0)
theorem nI_b2 {n : Nat} (h : n ≤ 1) : nI n = b2 (n == 1) := by
  rcases (show n = 0 ∨ n = 1 by omega) with rfl | rfl <;> rfl
/-- the places of the first i, as bits -/
def dn (g : GS) : Nat → Nat
  | 0 => 0
  | i + 1 => dn g i ||| 2 ^ plc g i
theorem dn_bit (g : GS) : ∀ (i p : Nat), (dn g i).testBit p = true ↔ ∃ j, j < i ∧ plc g j = p
  | 0, p => by simp [dn]
  | i + 1, p => by
    rw [dn, or_testBit, Bool.or_eq_true, dn_bit g i p, decide_eq_true_eq]
    constructor
    · rintro (⟨j, h1, h2⟩ | h)
      · exact ⟨j, by omega, h2⟩
      · exact ⟨i, by omega, h.symm⟩
    · rintro ⟨j, h1, h2⟩
      by_cases e : j = i
      · subst e; exact Or.inr h2.symm
      · exact Or.inl ⟨j, by omega, h2⟩
theorem dn_lt (g : GS) (n : Nat) : ∀ i, (∀ j, j < i → plc g j < n) → dn g i < 2 ^ n
  | 0, _ => Nat.two_pow_pos n
  | i + 1, h => by
    rw [dn]
    exact or_lt (dn_lt g n i (fun j hj => h j (by omega))) (h i (by omega))
def orB (g : GS) (i : Nat) : Bool := alB (fun q => !ahB g q (plc g i) || (dn g i).testBit q) (pls g) 0
def tgF (g : GS) : Nat → Nat → Nat → Bool
  | 0, _, _ => true
  | n + 1, i, c => (decide ((if bgn g i then 1 else c + 1) ≤ nzs g) && (decide ((if bgn g i then 1 else c + 1) ≤ 1) || nzA g i == nzA g (i - 1))) && tgF g n (i + 1) (if bgn g i then 1 else c + 1)
theorem gdF_split (g : GS) : ∀ n i c, gdF g n i c = (tgF g n i c && (alB (fun i => decide (slO g (kdA g i) < 8)) n i && alB (fun i => alB (fun j => !ahB g (plc g j) (plc g i)) (pln g - (i + 1)) (i + 1)) n i))
  | 0, i, c => rfl
  | n + 1, i, c => by
    rw [gdF, gdF_split g n (i + 1), tgF, alB, alB, gdS]
    simp only [Bool.and_assoc]
    generalize decide ((if bgn g i then 1 else c + 1) ≤ nzs g) = b1
    generalize (decide ((if bgn g i then 1 else c + 1) ≤ 1) || nzA g i == nzA g (i - 1)) = b2
    generalize decide (slO g (kdA g i) < 8) = b3
    generalize alB (fun j => !ahB g (plc g j) (plc g i)) (pln g - (i + 1)) (i + 1) = b4
    generalize tgF g n (i + 1) (if bgn g i then 1 else c + 1) = b5
    generalize alB (fun i => decide (slO g (kdA g i) < 8)) n (i + 1) = b6
    generalize alB (fun i => alB (fun j => !ahB g (plc g j) (plc g i)) (pln g - (i + 1)) (i + 1)) n (i + 1) = b7
    cases b1 <;> cases b2 <;> cases b3 <;> cases b4 <;> cases b5 <;> cases b6 <;> cases b7 <;> rfl
theorem ah_irr {g : GS} (hp : Wp g) (p : Nat) : ahB g p p = false := by
  unfold ahB
  rw [hp.2.2 p]
  simp
theorem plan_onto {g : GS} (hW : Wk g) (hp : Wp g) (e : pln g = pls g) {p : Nat} (h : p < pls g) : ∃ i, i < pln g ∧ plc g i = p := by
  have := fb_onto (n := pln g) (f := plc g) (fun i hi => by have := (hW.2.2.2.2.2.2.2.2 i hi).2; omega) hp.1 (y := p) (by omega)
  exact this
theorem order_eq {g : GS} (hW : Wk g) (hp : Wp g) (e : pln g = pls g) : alB (orB g) (pln g) 0 = alB (fun i => alB (fun j => !ahB g (plc g j) (plc g i)) (pln g - (i + 1)) (i + 1)) (pln g) 0 := by
  rw [Bool.eq_iff_iff, alB_iff, alB_iff]
  constructor
  · intro h i _ hi
    rw [alB_iff]
    intro j hj hj2
    have h1 := h i (by omega) hi
    unfold orB at h1
    rw [alB_iff] at h1
    have h2 := h1 (plc g j) (by omega) (by have := (hW.2.2.2.2.2.2.2.2 j (by omega)).2; omega)
    rw [Bool.or_eq_true] at h2
    rcases h2 with h2 | h2
    · exact h2
    · obtain ⟨k, hk, hk2⟩ := (dn_bit g i _).mp h2
      exact absurd hk2 (hp.1 k j (by omega) (by omega))
  · intro h i _ hi
    unfold orB
    rw [alB_iff]
    intro q _ hq
    rw [Bool.or_eq_true]
    obtain ⟨j, hj, hj2⟩ := plan_onto hW hp e (p := q) (by omega)
    rcases Nat.lt_trichotomy j i with q1 | q1 | q1
    · exact Or.inr ((dn_bit g i q).mpr ⟨j, q1, hj2⟩)
    · subst q1
      rw [← hj2, ah_irr hp]
      exact Or.inl rfl
    · have h1 := alB_iff.mp (h i (by omega) hi) j (by omega) (by omega)
      rw [hj2] at h1
      exact Or.inl h1
theorem feeders_eq {g : GS} (hW : Wk g) (hp : Wp g) (e : pln g = pls g) : alB (fun p => decide (slO g (g 38 p) < 8)) (pls g) 0 = alB (fun i => decide (slO g (kdA g i) < 8)) (pln g) 0 := by
  rw [Bool.eq_iff_iff, alB_iff, alB_iff]
  constructor
  · intro h i _ hi
    exact h (plc g i) (by omega) (by have := (hW.2.2.2.2.2.2.2.2 i (by omega)).2; omega)
  · intro h p _ hq
    obtain ⟨j, hj, hj2⟩ := plan_onto hW hp e (p := p) (by omega)
    have := h j (by omega) (by omega)
    unfold kdA at this
    rw [hj2] at this
    exact this
section DGd
variable {E : Env0} {d : Nat} {M : Mem} {Q : Int32 → Mem → Prop} {g : GS}
theorem DC.code (hD : DC g M) {i : Nat} (hi : i < pln g) : M 16 i = nI (g 42 i) := hD.2.2.2.2.2.2 i hi
theorem c_placeAt (hD : DC g M) (hW : Wk g) {i : Nat} (hi : i < pln g) (h : Q (nI (plc g i)) M) : CE E d n_R_placeAt [.inr 15, .inl (nI i)] M Q := by
  have hn := hW.2.1
  have hc := (hW.2.2.2.2.2.2.2.2 i hi).1
  exact c_R_placeAt (by omega) (by omega) (hD.code hi) h
theorem c_beginsAt (hD : DC g M) (hW : Wk g) {i : Nat} (hi : i < pln g) (h : Q (b2 (bgn g i)) M) : CE E d n_R_beginsAt [.inr 15, .inl (nI i)] M Q := by
  have hn := hW.2.1
  have hc := (hW.2.2.2.2.2.2.2.2 i hi).1
  exact c_R_beginsAt (by omega) (by omega) (hD.code hi) h
theorem c_nozzleOf (hD : DC g M) (hW : Wk g) {p : Nat} (hp : p < pls g) (h : Q (nI (g 34 (g 38 p))) M) : CE E d n_B_nozzleOf [.inr 1, .inl (nI p)] M Q := by
  have h10 := hW.1
  have h8 := (hW.2.2.1 p (by omega)).2.2
  exact c_B_nozzleOf (by omega) h8 (hD.2.1.2.1 p hp).2.2.1 (hD.1 _ h8).2.2.1 h
theorem c_isFine (hD : DC g M) (hW : Wk g) {p : Nat} (hp : p < pls g) (h : Q (b2 (g 35 (g 38 p) == 1)) M) : CE E d n_B_isFine [.inr 1, .inl (nI p)] M Q := by
  have h10 := hW.1
  have h8 := (hW.2.2.1 p (by omega)).2.2
  refine c_B_isFine (by omega) h8 (hD.2.1.2.1 p hp).2.2.1 ?_ h
  rw [(hD.1 _ h8).2.2.2]
  exact nI_b2 (hW.2.2.2.1 _ h8).2.2.2
theorem c_lowestOf (hD : DC g M) (hW : Wk g) {k : Nat} (hk : k < 8) (h : Q (e8 (slO g k)) M) : CE E d n_S_lowestOf [.inr 11, .inl (nI k)] M Q :=
  c_S_lowestOf (f := g 40) (by omega) (fun s hs => ⟨by have := (hW.2.2.2.2.2.1 s hs).1; omega, (hD.2.2.1 s hs).1⟩) h
theorem c_endOfTour (hD : DC g M) (hW : Wk g) {i : Nat} (hi : i < pln g) (h : Q (nI (enT g i)) M) : CE E (d + 1) n_R_endOfTour [.inr 15, .inl (nI i)] M Q :=
  c_R_endOfTour (f := g 42) hW.2.1 hi hD.2.2.2.2.1 (fun j hj => ⟨by have := (hW.2.2.2.2.2.2.2.2 j hj).1; omega, hD.code hj⟩) h
theorem c_K_isInOrder (hD : DC g M) (hW : Wk g) (h : Q (b2 (alB (orB g) (pln g) 0)) M) : CE E (d + 1) n_K_isInOrder [.inr 17] M Q := by
  have hn := hW.2.1
  have hp10 := hW.1
  have hl : M 15 1 = nI (pln g) := hD.2.2.2.2.1
  refine CE_of rfl (b_K_isInOrder_0 ?_)
  have key : ∀ (n i : Nat) (o : Option V), i + n = pln g → Q (b2 (alB (orB g) n i)) M → JE E (d + 1) n_K_isInOrder 4 [some (.inr 17), some (.inl (nI (dn g i))), some (.inl (nI i)), o] [] M Q := by
    intro n
    induction n with
    | zero =>
      intro i o hi hq
      exact b_K_isInOrder_4 _ _ _ ⟨fun _ => ⟨z01_1, hq⟩, fun c1 => absurd (by rw [hl]; exact nI_le (by omega) (by omega)) c1⟩
    | succ n ih =>
      intro i o hi hq
      have hpi := (hW.2.2.2.2.2.2.2.2 i (by omega)).2
      have hdn : dn g i < 2 ^ 10 := Nat.lt_of_lt_of_le (dn_lt g (pls g) i (fun j hj => (hW.2.2.2.2.2.2.2.2 j (by omega)).2)) (Nat.pow_le_pow_right (by decide) hp10)
      have hbf := bitsOf_lt (fun q => ahB g q (plc g i)) (pls g)
      have hbf2 : bitsOf (fun q => ahB g q (plc g i)) (pls g) < 2 ^ 31 := Nat.lt_of_lt_of_le hbf (Nat.pow_le_pow_right (by decide) (by omega))
      have hor : nI (bitsOf (fun q => ahB g q (plc g i)) (pls g)) &&& (nI (dn g i) ^^^ (-1)) = 0 ↔ orB g i = true := by
        rw [andn_z hbf2]
        unfold orB
        rw [alB_iff]
        constructor
        · intro hh q _ hq2
          have := hh q
          rw [bitsOf_bit] at this
          cases hah : ahB g q (plc g i) with
          | false => rfl
          | true =>
            rw [this (by simp [hah]; omega)]
            rfl
        · intro hh q hq2
          rw [bitsOf_bit] at hq2
          simp only [Bool.and_eq_true, decide_eq_true_eq] at hq2
          have := hh q (by omega) (by omega)
          rw [hq2.2] at this
          simpa using this
      rw [alB] at hq
      refine b_K_isInOrder_4 _ _ _ ⟨fun c1 => absurd c1 (by rw [hl]; exact nI_ge (by omega) (by omega)), fun _ => c_placeAt hD hW (by omega) ⟨vp_in_nI (by omega) (by omega), fun c2 => ?_, fun c2 => ⟨z01_0, ?_⟩⟩⟩
      · rw [nI_clamp (by omega), (hD.2.1.2.1 _ hpi).2.2.2.1, hor] at c2
        rw [or_bit _ _ (by omega), nI_1]
        refine ih (i + 1) _ (by omega) ?_
        rw [c2, Bool.true_and] at hq
        exact hq
      · rw [nI_clamp (by omega), (hD.2.1.2.1 _ hpi).2.2.2.1, hor] at c2
        have c3 : orB g i = false := by simpa using c2
        rw [c3] at hq
        exact hq
  exact key (pln g) 0 _ (by omega) h
theorem c_K_hasGoodTours (hD : DC g M) (hW : Wk g) (hp : Wp g) (h : Q (b2 (tgF g (pln g) 0 0)) M) : CE E (d + 1) n_K_hasGoodTours [.inr 17] M Q := by
  have hn := hW.2.1
  have hp10 := hW.1
  have hl : M 15 1 = nI (pln g) := hD.2.2.2.2.1
  have hnz : 1 ≤ nzs g ∧ nzs g ≤ 4 := hW.2.2.2.2.2.2.1
  have h14 : M 14 0 = nI (nzs g) := hD.2.2.2.1.1
  refine CE_of rfl (b_K_hasGoodTours_0 ?_)
  have key : ∀ (n i c : Nat), i + n = pln g → c ≤ 10 + i → (i ≠ 0 → 1 ≤ c) → Q (b2 (tgF g n i c)) M → JE E (d + 1) n_K_hasGoodTours 4 [some (.inr 17), some (.inl (nI c)), some (.inl (nI i))] [] M Q := by
    intro n
    induction n with
    | zero =>
      intro i c hi hc hc1 hq
      exact b_K_hasGoodTours_4 _ _ ⟨fun _ => ⟨z01_1, hq⟩, fun c1 => absurd (by rw [hl]; exact nI_le (by omega) (by omega)) c1⟩
    | succ n ih =>
      intro i c hi hc hc1 hq
      have hpi := (hW.2.2.2.2.2.2.2.2 i (by omega)).2
      rw [tgF] at hq
      have yes : bgn g i = true → JE E (d + 1) n_K_hasGoodTours 4 [some (.inr 17), some (.inl 1), some (.inl (nI i + 1))] [] M Q := by
        intro e
        rw [e] at hq
        simp only [if_true] at hq
        rw [nI_1]
        refine ih (i + 1) 1 (by omega) (by omega) (by omega) ?_
        have : decide (1 ≤ nzs g) = true := by simp; omega
        rw [this] at hq
        simpa using hq
      refine b_K_hasGoodTours_4 _ _ ⟨fun c1 => absurd c1 (by rw [hl]; exact nI_ge (by omega) (by omega)), fun _ => ⟨fun c2 => ?_, fun c2 => ?_⟩⟩
      · rw [zero_nI, nI_eq (by omega) (by omega)] at c2
        subst c2
        exact yes (hp.2.1 (by omega))
      · rw [zero_nI, nI_eq (by omega) (by omega)] at c2
        refine c_beginsAt hD hW (by omega) ⟨fun c3 => ?_, fun c3 => yes (b2_nz.mp c3)⟩
        rw [b2_z] at c3
        rw [c3] at hq
        simp only [Bool.false_eq_true, if_false] at hq
        rw [h14, nI_1]
        refine ⟨fun c4 => ⟨z01_0, ?_⟩, fun c4 => ?_⟩
        · rw [nI_ltI (by omega) (by omega)] at c4
          have : decide (c + 1 ≤ nzs g) = false := by simp; omega
          rw [this] at hq
          exact hq
        · rw [nI_ltI (by omega) (by omega)] at c4
          have e1 : nI i - 1 = nI (i - 1) := by rw [one_nI, pk_sub (by omega)]
          rw [e1]
          have hpi2 := (hW.2.2.2.2.2.2.2.2 (i - 1) (by omega)).2
          have k1 := (hW.2.2.2.1 _ (hW.2.2.1 (plc g i) (by omega)).2.2).2.2.1
          have k2 := (hW.2.2.2.1 _ (hW.2.2.1 (plc g (i - 1)) (by omega)).2.2).2.2.1
          refine c_placeAt hD hW (by omega) (c_nozzleOf hD hW hpi (c_placeAt hD hW (by omega) (c_nozzleOf hD hW hpi2 ⟨fun c5 => ?_, fun c5 => ⟨z01_0, ?_⟩⟩)))
          · rw [nI_eq (by omega) (by omega)] at c5
            rw [nI_1]
            refine ih (i + 1) (c + 1) (by omega) (by omega) (by omega) ?_
            have e2 : decide (c + 1 ≤ nzs g) = true := by simp; omega
            have e3 : (nzA g i == nzA g (i - 1)) = true := by unfold nzA kdA; rw [c5]; simp
            rw [e2, e3] at hq
            simpa using hq
          · rw [nI_eq (by omega) (by omega)] at c5
            have e2 : (decide (c + 1 ≤ 1) || nzA g i == nzA g (i - 1)) = false := by
              have e3 : (nzA g i == nzA g (i - 1)) = false := by unfold nzA kdA; simpa using c5
              have e4 := hc1 c2
              rw [e3]
              simp
              omega
            rw [e2] at hq
            simp only [Bool.and_false, Bool.false_and] at hq
            exact hq
  exact key (pln g) 0 0 (by omega) (by omega) (by omega) h
theorem c_K_hasAllFeeders (hD : DC g M) (hW : Wk g) (h : Q (b2 (alB (fun p => decide (slO g (g 38 p) < 8)) (pls g) 0)) M) : CE E (d + 1) n_K_hasAllFeeders [.inr 17] M Q := by
  have hp10 := hW.1
  have hl : M 1 4 = nI (pls g) := hD.2.1.1
  refine CE_of rfl (b_K_hasAllFeeders_0 ?_)
  have key : ∀ (n i : Nat), i + n = pls g → Q (b2 (alB (fun p => decide (slO g (g 38 p) < 8)) n i)) M → JE E (d + 1) n_K_hasAllFeeders 2 [some (.inr 17), some (.inl (nI i))] [] M Q := by
    intro n
    induction n with
    | zero =>
      intro i hi hq
      exact b_K_hasAllFeeders_2 _ ⟨fun _ => ⟨z01_1, hq⟩, fun c1 => absurd (by rw [hl]; exact nI_le (by omega) (by omega)) c1⟩
    | succ n ih =>
      intro i hi hq
      have h8 := (hW.2.2.1 i (by omega)).2.2
      rw [alB] at hq
      have hsl := slO_le g (g 38 i)
      refine b_K_hasAllFeeders_2 _ ⟨fun c1 => absurd c1 (by rw [hl]; exact nI_ge (by omega) (by omega)), fun _ => ⟨vp_in_nI (by omega) (by omega), ?_⟩⟩
      rw [nI_clamp (by omega), (hD.2.1.2.1 i (by omega)).2.2.1]
      refine c_lowestOf hD hW h8 ⟨fun c2 => ?_, fun c2 => ⟨z01_0, ?_⟩⟩
      · rw [e8_none hsl] at c2
        rw [nI_1]
        refine ih (i + 1) (by omega) ?_
        have : decide (slO g (g 38 i) < 8) = true := by simp; omega
        rw [this, Bool.true_and] at hq
        exact hq
      · rw [e8_none hsl] at c2
        have : decide (slO g (g 38 i) < 8) = false := by simp; omega
        rw [this, Bool.false_and] at hq
        exact hq
  exact key (pls g) 0 (by omega) h
theorem c_K_isGood (hD : DC g M) (hW : Wk g) (hp : Wp g) (h : Q (b2 (gdB g)) M) : CE E (d + 2) n_K_isGood [.inr 17] M Q := by
  have hn := hW.2.1
  have hp10 := hW.1
  have hl : M 15 1 = nI (pln g) := hD.2.2.2.2.1
  have hl2 : M 1 4 = nI (pls g) := hD.2.1.1
  refine CE_of rfl (b_K_isGood_0 ⟨fun c1 => ⟨z01_0, ?_⟩, fun c1 => ?_⟩)
  · rw [hl, hl2, nI_eq (by omega) (by omega)] at c1
    have : gdB g = false := by unfold gdB; simp [c1]
    rw [this] at h
    exact h
  · rw [hl, hl2, nI_eq (by omega) (by omega)] at c1
    have e0 : gdB g = (tgF g (pln g) 0 0 && (alB (fun p => decide (slO g (g 38 p) < 8)) (pls g) 0 && alB (orB g) (pln g) 0)) := by
      unfold gdB
      rw [gdF_split, feeders_eq hW hp c1, order_eq hW hp c1]
      simp [c1]
    rw [e0] at h
    refine c_K_isInOrder hD hW ⟨fun c2 => ⟨z01_0, ?_⟩, fun c2 => c_K_hasGoodTours hD hW hp ⟨fun c3 => ⟨z01_0, ?_⟩, fun c3 => c_K_hasAllFeeders hD hW ⟨fun c4 => ⟨z01_0, ?_⟩, fun c4 => ⟨z01_1, ?_⟩⟩⟩⟩
    · rw [b2_z] at c2
      rw [c2, Bool.and_false, Bool.and_false] at h
      exact h
    · rw [b2_z] at c3
      rw [c3, Bool.false_and] at h
      exact h
    · rw [b2_z] at c4
      rw [c4, Bool.false_and, Bool.and_false] at h
      exact h
    · rw [b2_nz] at c2 c3 c4
      rw [c2, c3, c4] at h
      exact h
end DGd
