/-! Late ones, both sides. -/
theorem place_rng {X : Int32} {n : Nat} (hn : n ≤ 10) (h : decide ((0 : Int32) ≤ X ∧ X ≤ nI n - 1) = true) : ∃ p, p < n ∧ X = nI p := by
  obtain ⟨h1, h2⟩ := of_decide_eq_true h
  cases n with
  | zero => exact absurd (Int32.le_trans h1 h2) (by decide)
  | succ m =>
    rw [nI_sub1] at h2
    obtain ⟨p, a, b⟩ := nI_rng (m := m) (by omega) h1 h2
    exact ⟨p, by omega, b⟩
/-- two places, not the same -/
def twB (g : GS) (X Y : Int32) : Bool := decide ((0 : Int32) ≤ X ∧ X ≤ nI (pls g) - 1) && (decide ((0 : Int32) ≤ Y ∧ Y ≤ nI (pls g) - 1) && decide (X ≠ Y))
theorem tw_rng {g : GS} (hW : Wk g) {X Y : Int32} (h : twB g X Y = true) : ∃ p q, p < pls g ∧ q < pls g ∧ p ≠ q ∧ X = nI p ∧ Y = nI q := by
  unfold twB at h
  rw [Bool.and_eq_true, Bool.and_eq_true] at h
  obtain ⟨p, a, b⟩ := place_rng hW.1 h.1
  obtain ⟨q, c, e⟩ := place_rng hW.1 h.2.1
  refine ⟨p, q, a, c, fun z => ?_, b, e⟩
  have := of_decide_eq_true h.2.2
  exact this (by rw [b, e, z])
def gL (g : GS) (p q : Nat) : GS := sG g 39 (fs (g 39) (10 * p + q) 1)
theorem gL_ah {g : GS} {p q a b : Nat} (ha : a < 10) (hb : b < 10) (hp : p < 10) (hq : q < 10) : ahB (gL g p q) a b = (ahB g a b || (decide (a = q) && decide (b = p))) := by
  have e : ∀ j, (gL g p q) 39 j = fs (g 39) (10 * p + q) 1 j := fun _ => rfl
  unfold ahB
  rw [e]
  by_cases h : a = q ∧ b = p
  · rw [h.1, h.2, fs_eq]; simp
  · rw [fs_ne _ _ (by omega)]
    have : (decide (a = q) && decide (b = p)) = false := by
      rw [← Bool.decide_and]
      simpa using h
    rw [this, Bool.or_false]
    rfl
theorem gL_lt {g : GS} {p q a b : Nat} (ha : a < 10) (hb : b < 10) (hp : p < 10) (hq : q < 10) : ltB (gL g p q) a b = (ltB g a b || (decide (b = q) && decide (a = p))) := by
  have e : ∀ j, (gL g p q) 39 j = fs (g 39) (10 * p + q) 1 j := fun _ => rfl
  unfold ltB
  rw [e]
  by_cases h : b = q ∧ a = p
  · rw [h.1, h.2, fs_eq]; simp
  · rw [fs_ne _ _ (by omega)]
    have : (decide (b = q) && decide (a = p)) = false := by
      rw [← Bool.decide_and]
      simpa using h
    rw [this, Bool.or_false]
section LA
variable {E : Env0} {d : Nat} {M : Mem} {Q : Int32 → Mem → Prop} {g : GS}
theorem c_M_isPlace {X : Int32} (hR : RC g M) (h : Q (b2 (decide ((0 : Int32) ≤ X ∧ X ≤ nI (pls g) - 1))) M) : CE E (d + 1) n_M_isPlace [.inr 31, .inl X] M Q := by
  refine CE_of rfl (b_M_isPlace_0 _ ?_)
  rw [show M 31 4 = nI (pls g) from hR.2.2.1]
  exact c_M_lies ⟨b2_01 _, h⟩
theorem c_D_isPlace {X : Int32} (hD : DC g M) (h : Q (b2 (decide ((0 : Int32) ≤ X ∧ X ≤ nI (pls g) - 1))) M) : CE E (d + 1) n_D_isPlace [.inr 0, .inl X] M Q := by
  refine CE_of rfl (b_D_isPlace_0 _ ?_)
  rw [show M 1 4 = nI (pls g) from hD.2.1.1]
  exact c_D_isWithin ⟨b2_01 _, h⟩
theorem c_D_areTwoPlaces {X Y : Int32} (hD : DC g M) (h : Q (b2 (twB g X Y)) M) : CE E (d + 2) n_D_areTwoPlaces [.inr 0, .inl X, .inl Y] M Q := by
  unfold twB at h
  refine CE_of rfl (b_D_areTwoPlaces_0 _ _ (c_D_isPlace hD ⟨fun c1 => ⟨z01_0, ?_⟩, fun c1 => c_D_isPlace hD ⟨fun c2 => ⟨z01_0, ?_⟩, fun c2 => ⟨fun c3 => ⟨z01_0, ?_⟩, fun c3 => ⟨z01_1, ?_⟩⟩⟩⟩))
  · rw [b2_z] at c1
    rw [c1] at h
    exact h
  · rw [b2_z] at c2
    rw [c2, Bool.false_and, Bool.and_false] at h
    exact h
  · have : decide (X ≠ Y) = false := by simp [c3]
    rw [this, Bool.and_false, Bool.and_false] at h
    exact h
  · rw [b2_nz] at c1 c2
    have : decide (X ≠ Y) = true := by simp [c3]
    rw [this, c1, c2] at h
    exact h
/-- what the reference's late may change -/
def sL (M M' : Mem) : Prop := (∀ k, k ≠ 31 → k ≠ 39 → k ≠ 44 → M' k = M k) ∧ ∀ j, j ≠ 16 → j ≠ 30 → j ≠ 28 → M' 31 j = M 31 j
theorem RC.s39 (h : RC g M) (j v : Nat) : RC (sG g 39 (fs (g 39) j v)) (mset M 39 j (nI v)) := by
  obtain ⟨r1, r2, r3, r4⟩ := h
  refine ⟨fun k a b c j' => ?_, fun j' => ?_, ?_, fun j' a b => ?_⟩
  · by_cases hk : k = 39
    · subst hk
      rw [mset_eq]
      show upd (M 39) j (nI v) j' = nI (fs (g 39) j v j')
      unfold upd fs
      split
      · rfl
      · exact r1 39 a b c j'
    · rw [mset_ne _ _ _ hk, r1 k a b c j']
      have : sG g 39 (fs (g 39) j v) k = g k := if_neg hk
      rw [this]
  · rw [mset_ne _ _ _ (by omega)]; exact r2 j'
  · rw [mset_ne _ _ _ (by omega)]; exact r3
  · rw [mset_ne _ _ _ (by omega)]; exact r4 j' a b
theorem c_M_late {X Y : Int32} (hR : RC g M) (hW : Wk g) (hp : Wp g)
    (k0 : twB g X Y = false → Q 0 M)
    (k1 : ∀ p q, X = nI p → Y = nI q → p < pls g → q < pls g → p ≠ q → g 39 (10 * p + q) = 1 → Q 0 M)
    (k2 : ∀ p q, X = nI p → Y = nI q → p < pls g → q < pls g → p ≠ q → g 39 (10 * p + q) = 0 → Rg (pls g) (ahB (gL g p q)) → ∀ M', sL M M' → RC g M' → M' 31 = M 31 → Q 0 M')
    (k3 : ∀ p q, X = nI p → Y = nI q → p < pls g → q < pls g → p ≠ q → g 39 (10 * p + q) = 0 → ¬ Rg (pls g) (ahB (gL g p q)) → ∀ M', sL M M' → RC (g31 (gL g p q) 16 0) M' → M' 31 28 = 0 → M' 31 30 = 0 → Q 1 M') : CE E (d + 4) n_M_late [.inr 31, .inl X, .inl Y] M Q := by
  have hp10 := hW.1
  refine CE_of rfl (b_M_late_0 _ _ (c_M_isPlace hR ⟨fun c1 => ⟨z01_0, ?_⟩, fun c1 => c_M_isPlace hR ⟨fun c2 => ⟨z01_0, ?_⟩, fun c2 => ⟨fun c3 => ⟨z01_0, ?_⟩, fun c3 => ?_⟩⟩⟩))
  · rw [b2_z] at c1
    exact k0 (by unfold twB; rw [c1]; rfl)
  · rw [b2_z] at c2
    exact k0 (by unfold twB; rw [c2]; simp)
  · exact k0 (by unfold twB; simp [c3])
  · rw [b2_nz] at c1 c2
    have ht : twB g X Y = true := by
      unfold twB
      have : decide (X ≠ Y) = true := by simp [c3]
      rw [c1, c2, this]
      rfl
    obtain ⟨p, q, h1, h2, h3, ex, ey⟩ := tw_rng hW ht
    have k1 := k1 p q ex ey h1 h2 h3
    have k2 := k2 p q ex ey h1 h2 h3
    have k3 := k3 p q ex ey h1 h2 h3
    have e10 : (10 : Int32) * nI p + nI q = nI (10 * p + q) := by
      rw [show (10 : Int32) = nI 10 from rfl, pk_mul, nI_add]
    have v : vp_in (nI (10 * p + q)) 100 := vp_in_nI (by omega) (by omega)
    have hle := hW.2.2.2.2.1 (10 * p + q)
    have m39 : ∀ j, M 39 j = nI (g 39 j) := fun j => hR.at 39 (by omega) (by omega) (by omega) j
    rw [ex, ey, e10, nI_clamp (by omega), m39, zero_nI, nI_eq (by omega) (by omega), ← zero_nI]
    refine ⟨v, fun c4 => ⟨v, z01_1, ?_⟩, fun c4 => ⟨z01_0, k1 (by omega)⟩⟩
    have hR1 : RC (gL g p q) (mset M 39 (10 * p + q) 1) := hR.s39 (10 * p + q) 1
    have hW1 : Wk (gL g p q) := by
      obtain ⟨w1, w2, w3, w4, w5, w6⟩ := hW
      refine ⟨w1, w2, w3, w4, fun j => ?_, w6⟩
      show fs (g 39) (10 * p + q) 1 j ≤ 1
      unfold fs
      split
      · omega
      · exact w5 j
    have h39 : ∀ z, (gL g p q) 39 (10 * z + z) = 0 := by
      intro z
      show fs (g 39) (10 * p + q) 1 (10 * z + z) = 0
      rw [fs_ne _ _ (by omega)]
      exact hp.2.2 z
    refine c_M_isRing hR1 hW1 h39 (fun M2 r s2 hr => ?_)
    have hr : r = true ↔ Rg (pls g) (ahB (gL g p q)) := hr
    have e2 : M2 31 = M 31 := by rw [s2 31 (by omega), mset_ne _ _ _ (by omega)]
    have hR2 := hR1.s44 s2
    refine ⟨fun c5 => ⟨z01_0, z01_0, z01_1, ?_⟩, fun c5 => ⟨v, z01_0, z01_0, ?_⟩⟩
    · rw [b2_z] at c5
      refine k3 c4 (fun z => by rw [hr.mpr z] at c5; exact absurd c5 (by decide)) _ ⟨fun k' a b c => ?_, fun j a b c => ?_⟩ (((hR2.j31 16 0 (by omega)).o31 30 0 (by omega) (by omega)).o31 28 0 (by omega) (by omega)) ?_ ?_
      · rw [mset_ne _ _ _ a, mset_ne _ _ _ a, mset_ne _ _ _ a, s2 k' c, mset_ne _ _ _ b]
      · simp only [mset_eq, upd]
        rw [if_neg c, if_neg b, if_neg a, e2]
      · rw [mset_eq]; exact if_pos rfl
      · rw [mset_eq, mset_eq]; rfl
    · rw [b2_nz] at c5
      refine k2 c4 (hr.mp c5) _ ⟨fun k' a b c => ?_, fun j a b c => ?_⟩ ?_ ?_
      · rw [mset_ne _ _ _ b, s2 k' c, mset_ne _ _ _ b]
      · rw [mset_ne _ _ _ (by omega), e2]
      · have hR3 := hR2.s39 (10 * p + q) 0
        have eg : sG (gL g p q) 39 (fs ((gL g p q) 39) (10 * p + q) 0) = g := by
          funext k' j
          unfold sG
          by_cases hk' : k' = 39
          · rw [if_pos hk']
            subst hk'
            show fs (fs (g 39) (10 * p + q) 1) (10 * p + q) 0 j = g 39 j
            unfold fs
            split
            · next e => rw [e, c4]
            · rfl
          · rw [if_neg hk']
            exact congrFun (if_neg hk') j
        rw [eg] at hR3
        exact hR3
      · rw [mset_ne _ _ _ (by omega)]; exact e2
theorem c_D_late {X Y : Int32} (hD : DC g M) (hW : Wk g) (hp : Wp g) (h0 : ¬ Rg (pls g) (ahB g))
    (k0 : twB g X Y = false → Q 0 M)
    (k1 : ∀ p q, X = nI p → Y = nI q → p < pls g → q < pls g → p ≠ q → g 39 (10 * p + q) = 1 → Q 0 M)
    (k2 : ∀ p q, X = nI p → Y = nI q → p < pls g → q < pls g → p ≠ q → g 39 (10 * p + q) = 0 → Rg (pls g) (ahB (gL g p q)) → Q 0 M)
    (k3 : ∀ p q, X = nI p → Y = nI q → p < pls g → q < pls g → p ≠ q → g 39 (10 * p + q) = 0 → ¬ Rg (pls g) (ahB (gL g p q)) → ∀ M', sA M M' → DC (g31 (gL g p q) 16 0) M' → M' 26 7 = 0 → Q 1 M') : CE E (d + 3) n_D_late [.inr 0, .inl X, .inl Y] M Q := by
  have hp10 := hW.1
  refine CE_of rfl (b_D_late_0 _ _ (c_D_areTwoPlaces hD ⟨fun c1 => ⟨z01_0, k0 (b2_z.mp c1)⟩, fun c1 => ?_⟩))
  obtain ⟨p, q, h1, h2, h3, ex, ey⟩ := tw_rng hW (b2_nz.mp c1)
  have k1 := k1 p q ex ey h1 h2 h3
  have k2 := k2 p q ex ey h1 h2 h3
  have k3 := k3 p q ex ey h1 h2 h3
  have v : vp_in (nI p) 10 := vp_in_nI (by omega) (by omega)
  have hle := hW.2.2.2.2.1 (10 * p + q)
  have hl : ∀ f : Nat → Bool, bitsOf f (pls g) < 2 ^ 31 := fun f => by
    have := bitsOf_lt f (pls g)
    have : 2 ^ pls g ≤ 2 ^ 10 := Nat.pow_le_pow_right (by omega) hp10
    omega
  obtain ⟨hK, ⟨hP1, hP2, hP3⟩, hS, hG, hR⟩ := hD
  obtain ⟨-, -, -, e9, e10⟩ := hP2 p h1
  have tb : ∀ (f : Nat → Bool) i, i < pls g → (bitsOf f (pls g)).testBit i = f i := by
    intro f i hi
    rw [bitsOf_bit]
    have : decide (i < pls g) = true := by simp [hi]
    rw [this, Bool.true_and]
  rw [ex, ey]
  refine CE_of rfl (b_B_addLate_0 _ _ ⟨v, ?_⟩)
  rw [nI_clamp (by omega), e10]
  refine c_D_hasBit (hl _) (by omega) ?_
  rw [tb _ q h2]
  refine ⟨fun c2 => ⟨z01_0, fun z => absurd rfl z, fun _ => ⟨z01_0, ?_⟩⟩, fun c2 => ?_⟩
  · rw [b2_nz] at c2
    exact k1 (by unfold ltB at c2; simpa using c2)
  rw [b2_z] at c2
  have g0 : g 39 (10 * p + q) = 0 := by
    unfold ltB at c2
    have : ¬ g 39 (10 * p + q) = 1 := by simpa using c2
    omega
  have k2 := k2 g0
  have k3 := k3 g0
  have eb : bitsOf (fun z => decide (z = q)) (pls g) = 2 ^ q := by
    apply bits_ext
    intro i
    rw [bitsOf_bit, Nat.testBit_two_pow]
    by_cases hi : i = q
    · rw [hi]; simp [h2]
    · simp [hi, Ne.symm hi]
  rw [one_shl q (by omega), ← eb]
  refine c_B_withAllBefore (A := ahB g) hp10 hP1 (fun p hp => (hP2 p hp).2.2.2.1) ?_
  refine c_D_hasBit (hl _) (by omega) ?_
  have hr := ring_late (n := pls g) (p := p) (q := q) (A := ahB g) (A' := ahB (gL g p q)) hp10 h1 h2 h0 (fun a b ha hb => by
    rw [gL_ah (by omega) (by omega) (by omega) (by omega), Bool.or_eq_true, Bool.and_eq_true, decide_eq_true_eq, decide_eq_true_eq])
  rw [tb _ p h1, eb, e9]
  refine ⟨fun c3 => ⟨v, v, v, v, z01_1, fun _ => ?_, fun z => absurd z (by decide)⟩, fun c3 => ⟨z01_0, fun z => absurd rfl z, fun _ => ⟨z01_0, k2 (hr.mpr (b2_nz.mp c3))⟩⟩⟩
  rw [b2_z] at c3
  have hnr : ¬ Rg (pls g) (ahB (gL g p q)) := fun z => by rw [hr.mp z] at c3; exact absurd c3 (by decide)
  rw [e10, fa_or, fa_or]
  refine c_D_dropPlan (fun M2 f0 f1 f2 f3 f4 => ⟨z01_1, k3 hnr M2 ⟨fun k' a b c d' e f h i => ?_, fun j hj => ?_⟩ ?_ f2⟩)
  · rw [f0 k' h i, mset_ne _ _ _ e, mset_ne _ _ _ f]
  · rw [f1 j hj, mset_ne _ _ _ (by omega), mset_ne _ _ _ (by omega)]
  · have fr : ∀ k', k' ≠ 9 → k' ≠ 10 → k' ≠ 15 → k' ≠ 26 → M2 k' = M k' := fun k' a b c d' => by rw [f0 k' c d', mset_ne _ _ _ a, mset_ne _ _ _ b]
    have m9 : M2 9 = upd (M 9) p (nI (bitsOf (fun z => ahB g z p) (pls g) ||| 2 ^ q)) := by
      rw [f0 9 (by omega) (by omega), mset_eq, mset_ne _ _ _ (by omega)]
    have m10 : M2 10 = upd (M 10) p (nI (bitsOf (fun z => ltB g p z) (pls g) ||| 2 ^ q)) := by
      rw [f0 10 (by omega) (by omega), mset_ne _ _ _ (by omega), mset_eq]
    refine ⟨?_, ⟨?_, fun p' hpp => ?_, fun p' hpp => ?_⟩, ?_, ?_, ?_⟩
    · unfold DK at *
      simp only [fr 2 (by omega) (by omega) (by omega) (by omega), fr 3 (by omega) (by omega) (by omega) (by omega), fr 4 (by omega) (by omega) (by omega) (by omega), fr 5 (by omega) (by omega) (by omega) (by omega)]
      exact hK
    · rw [fr 1 (by omega) (by omega) (by omega) (by omega)]
      exact hP1
    · have hpp : p' < pls g := hpp
      obtain ⟨a, b, c, e, f⟩ := hP2 p' hpp
      rw [fr 6 (by omega) (by omega) (by omega) (by omega), fr 7 (by omega) (by omega) (by omega) (by omega), fr 8 (by omega) (by omega) (by omega) (by omega), m9, m10]
      refine ⟨a, b, c, ?_, ?_⟩
      · show upd (M 9) p _ p' = nI (bitsOf (fun z => ahB (gL g p q) z p') (pls g))
        unfold upd
        by_cases hpe : p' = p
        · rw [if_pos hpe]
          congr 1
          rw [hpe, ← bits_set (f' := fun z => ahB g z p || decide (z = q)) h2 (fun _ => rfl)]
          exact bitsOf_all (fun i hi => by rw [gL_ah (by omega) (by omega) (by omega) (by omega)]; simp)
        · rw [if_neg hpe, e]
          congr 1
          exact bitsOf_all (fun i hi => by rw [gL_ah (by omega) (by omega) (by omega) (by omega)]; simp [hpe])
      · show upd (M 10) p _ p' = nI (bitsOf (fun z => ltB (gL g p q) p' z) (pls g))
        unfold upd
        by_cases hpe : p' = p
        · rw [if_pos hpe]
          congr 1
          rw [hpe, ← bits_set (f' := fun z => ltB g p z || decide (z = q)) h2 (fun _ => rfl)]
          exact bitsOf_all (fun i hi => by rw [gL_lt (by omega) (by omega) (by omega) (by omega)]; simp)
        · rw [if_neg hpe, f]
          congr 1
          exact bitsOf_all (fun i hi => by rw [gL_lt (by omega) (by omega) (by omega) (by omega)]; simp [hpe])
    · have hpp : pls g ≤ p' := hpp
      rw [m10]
      show upd (M 10) p _ p' = 0
      unfold upd
      rw [if_neg (by omega)]
      exact hP3 p' hpp
    · unfold DS at *
      rw [fr 12 (by omega) (by omega) (by omega) (by omega), fr 13 (by omega) (by omega) (by omega) (by omega)]
      exact hS
    · unfold DG at *
      rw [fr 14 (by omega) (by omega) (by omega) (by omega)]
      exact hG
    · refine ⟨f3, ?_, fun i hi => absurd hi (by show ¬ i < 0; omega)⟩
      rw [f4, bitsOf_none (fun i _ => inP_0 rfl i)]
      rfl
end LA
