/-! Places and late ones, both sides. -/
def gP2 (g : GS) (x y k : Nat) : GS := g31 (g31 (gP g x y k) 4 (pls g + 1)) 16 0
section PE
variable {E : Env0} {d : Nat} {M : Mem} {Q : Int32 → Mem → Prop} {g : GS}
theorem inP_0 {g : GS} (h : pln g = 0) (p : Nat) : inP g p = false := by
  unfold inP
  rw [h]
  rfl
theorem bits_snoc (f : Nat → Bool) (n : Nat) : bitsOf f (n + 1) = if f n then bitsOf f n ||| 2 ^ n else bitsOf f n := by
  apply bits_ext
  intro i
  split
  · next h =>
    rw [or_testBit, bitsOf_bit, bitsOf_bit]
    by_cases hi : i = n
    · rw [hi, h]; simp
    · have : decide (i < n + 1) = decide (i < n) := by
        congr 1
        apply propext
        omega
      rw [this]; simp [hi]
  · next h =>
    rw [bitsOf_bit, bitsOf_bit]
    by_cases hi : i = n
    · have : f n = false := by simpa using h
      rw [hi, this]; simp
    · have : decide (i < n + 1) = decide (i < n) := by
        congr 1
        apply propext
        omega
      rw [this]
theorem c_D_place {X Y K : Int32} (hD : DC g M) (hW : Wk g) (hp : Wp g) (hL : WL g) (h0 : ¬ Rg (pls g) (ahB g))
    (k0 : (ptB X Y K && decide (pls g < 10)) = false → Q (-1) M)
    (k1 : ∀ x y k, X = nI x → Y = nI y → K = nI k → x ≤ 199 → y ≤ 199 → k ≤ 7 → pls g < 10 → (ovB (gP g x y k) (pls g) = true ∨ Rg (pls g + 1) (ahB (gP g x y k))) → Q (-1) M)
    (k2 : ∀ x y k, X = nI x → Y = nI y → K = nI k → x ≤ 199 → y ≤ 199 → k ≤ 7 → pls g < 10 → ovB (gP g x y k) (pls g) = false → ¬ Rg (pls g + 1) (ahB (gP g x y k)) → ∀ M', sA M M' → DC (gP2 g x y k) M' → M' 26 7 = 0 → Q (nI (pls g)) M') : CE E (d + 3) n_D_place [.inr 0, .inl X, .inl Y, .inl K] M Q := by
  have hp10 := hW.1
  unfold ptB at k0
  refine CE_of rfl (b_D_place_0 _ _ _ (c_D_isWithin ⟨fun c1 => ?_, fun c1 => c_D_isWithin ⟨fun c2 => ?_, fun c2 => c_D_isWithin ⟨fun c3 => ?_, fun c3 => ?_⟩⟩⟩))
  · rw [b2_z] at c1
    exact k0 (by rw [show decide ((0 : Int32) ≤ X ∧ X ≤ nI 199) = false from c1]; rfl)
  · rw [b2_z] at c2
    exact k0 (by rw [show decide ((0 : Int32) ≤ Y ∧ Y ≤ nI 199) = false from c2]; simp)
  · rw [b2_nz] at c1 c2 c3
    obtain ⟨x, hx, ex⟩ := within_rng (m := 199) (by omega) c1
    obtain ⟨y, hy, ey⟩ := within_rng (m := 199) (by omega) c2
    obtain ⟨k, hk, ek⟩ := within_rng (m := 7) (by omega) c3
    have k1 := k1 x y k ex ey ek hx hy hk
    have k2 := k2 x y k ex ey ek hx hy hk
    rw [ex, ey, ek]
    refine c_B_addPlace hD hW hp hL h0 hx hy hk (fun hn => ⟨fun _ => ?_, fun z => absurd rfl z⟩) (fun hn hr => ⟨fun _ => k1 hn hr, fun z => absurd rfl z⟩) (fun hn ho hr M1 e0 e1 e2 e3 e4 e5 e6 e7 => ⟨fun z => absurd z (nI_neg1 _ (by omega)), fun _ => ?_⟩)
    · have : decide (pls g < 10) = false := by simp; omega
      exact k0 (by rw [this]; simp)
    · refine c_D_dropPlan (fun M2 f0 f1 f2 f3 f4 => k2 hn ho hr M2 ⟨fun k' a b c d' e _ h i => ?_, fun j hj => ?_⟩ ?_ f2)
      · rw [f0 k' h i]
        exact e0 k' a b c d' e
      · rw [f1 j hj, e0 26 (by omega) (by omega) (by omega) (by omega) (by omega)]
      · obtain ⟨hK, ⟨hP1, hP2, hP3⟩, hS, hG, hR⟩ := hD
        have fr : ∀ k', k' ≠ 1 → k' ≠ 6 → k' ≠ 7 → k' ≠ 8 → k' ≠ 9 → k' ≠ 15 → k' ≠ 26 → M2 k' = M k' := fun k' a b c d' e h i => by rw [f0 k' h i]; exact e0 k' a b c d' e
        have u : ∀ k', k' ≠ 15 → k' ≠ 26 → M2 k' = M1 k' := f0
        refine ⟨?_, ⟨?_, fun p hpp => ?_, fun p hpp => ?_⟩, ?_, ?_, ?_⟩
        · unfold DK at *
          simp only [fr 2 (by omega) (by omega) (by omega) (by omega) (by omega) (by omega) (by omega), fr 3 (by omega) (by omega) (by omega) (by omega) (by omega) (by omega) (by omega), fr 4 (by omega) (by omega) (by omega) (by omega) (by omega) (by omega) (by omega), fr 5 (by omega) (by omega) (by omega) (by omega) (by omega) (by omega) (by omega)]
          exact hK
        · rw [u 1 (by omega) (by omega)]
          exact e2
        · have hpp : p < pls g + 1 := hpp
          rw [u 6 (by omega) (by omega), u 7 (by omega) (by omega), u 8 (by omega) (by omega), u 9 (by omega) (by omega), fr 10 (by omega) (by omega) (by omega) (by omega) (by omega) (by omega) (by omega), e3, e4, e5]
          show upd (M 6) (pls g) (nI x) p = nI (fs (g 36) (pls g) x p) ∧ upd (M 7) (pls g) (nI y) p = nI (fs (g 37) (pls g) y p) ∧ upd (M 8) (pls g) (nI k) p = nI (fs (g 38) (pls g) k p) ∧ M1 9 p = nI (bitsOf (fun q => ahB (gP g x y k) q p) (pls g + 1)) ∧ M 10 p = nI (bitsOf (fun q => ltB g p q) (pls g + 1))
          have hlt : ∀ a b, a < 10 → b < 10 → (pls g ≤ a ∨ pls g ≤ b) → ltB g a b = false := by
            intro a b ha hb hh
            unfold ltB
            cases hz : g 39 (10 * a + b) == 1
            · rfl
            · have := hL a b ha hb (by simpa using hz)
              omega
          by_cases hpn : p = pls g
          · refine ⟨?_, ?_, ?_, ?_, ?_⟩
            · unfold upd fs; rw [if_pos hpn, if_pos hpn]
            · unfold upd fs; rw [if_pos hpn, if_pos hpn]
            · unfold upd fs; rw [if_pos hpn, if_pos hpn]
            · rw [hpn, e6, bits_snoc, ah_self (g := gP g x y k) hp.2.2 (pls g), if_neg (by decide)]
            · rw [hP3 p (by omega), bitsOf_none (fun i hi => hlt p i (by omega) (by omega) (by omega))]
              rfl
          · obtain ⟨a, b, c, e, f⟩ := hP2 p (by omega)
            refine ⟨?_, ?_, ?_, ?_, ?_⟩
            · unfold upd fs; rw [if_neg hpn, if_neg hpn]; exact a
            · unfold upd fs; rw [if_neg hpn, if_neg hpn]; exact b
            · unfold upd fs; rw [if_neg hpn, if_neg hpn]; exact c
            · rw [e7 p (by omega), e, bits_snoc, or_bit _ _ (by omega), bitsOf_all (fun i hi => (gP_ah (x := x) (y := y) (k := k) hi (by omega)).symm)]
              split <;> rfl
            · rw [f, bits_snoc, hlt p (pls g) (by omega) (by omega) (by omega), if_neg (by decide)]
        · have hpp : pls g + 1 ≤ p := hpp
          rw [fr 10 (by omega) (by omega) (by omega) (by omega) (by omega) (by omega) (by omega)]
          exact hP3 p (by omega)
        · unfold DS at *
          rw [fr 12 (by omega) (by omega) (by omega) (by omega) (by omega) (by omega) (by omega), fr 13 (by omega) (by omega) (by omega) (by omega) (by omega) (by omega) (by omega)]
          exact hS
        · unfold DG at *
          rw [fr 14 (by omega) (by omega) (by omega) (by omega) (by omega) (by omega) (by omega)]
          exact hG
        · refine ⟨f3, ?_, fun i hi => absurd hi (by show ¬ i < 0; omega)⟩
          rw [f4, bitsOf_none (fun i _ => inP_0 rfl i)]
          rfl
  · rw [b2_z] at c3
    exact k0 (by rw [show decide ((0 : Int32) ≤ K ∧ K ≤ nI 7) = false from c3]; simp)
end PE
/-- what the words of a new place keep -/
theorem Wk.p2 {g : GS} (hW : Wk g) {x y k : Nat} (hn : pls g < 10) (hx : x ≤ 199) (hy : y ≤ 199) (hk : k ≤ 7) : Wk (gP2 g x y k) := by
  obtain ⟨h1, h2, h3, h4, h5, h6, h7, h8, h9⟩ := hW.pl hx hy (show k < 8 by omega)
  exact ⟨by show pls g + 1 ≤ 10; omega, by show 0 ≤ 10; omega, h3, h4, h5, h6, h7, h8, fun i hi => absurd hi (by show ¬ i < 0; omega)⟩
theorem Wp.p2 {g : GS} (hp : Wp g) {x y k : Nat} : Wp (gP2 g x y k) := ⟨fun i j _ h => absurd h (by show ¬ j < 0; omega), fun h => absurd h (by show ¬ 0 < 0; omega), hp.2.2⟩
theorem WL.p2 {g : GS} (hL : WL g) {x y k : Nat} : WL (gP2 g x y k) := fun p q a b c => by
  have := hL p q a b c
  show p < pls g + 1 ∧ q < pls g + 1
  omega
