/-! A new place. -/
theorem nI_rng {X : Int32} {m : Nat} (hm : m < 2 ^ 31) (h0 : 0 ≤ X) (h1 : X ≤ nI m) : ∃ x, x ≤ m ∧ X = nI x := by
  have e : nI X.toNatClampNeg = X := Int32.ofNat_toNatClampNeg X h0
  have hl : X.toNatClampNeg < 2 ^ 31 := Int32.toNatClampNeg_lt X
  refine ⟨X.toNatClampNeg, ?_, e.symm⟩
  rw [← e, nI_leI hl hm] at h1
  exact h1
theorem within_rng {X : Int32} {m : Nat} (hm : m < 2 ^ 31) (h : decide ((0 : Int32) ≤ X ∧ X ≤ nI m) = true) : ∃ x, x ≤ m ∧ X = nI x := nI_rng hm (of_decide_eq_true h).1 (of_decide_eq_true h).2
/-- what is told as late is told of places -/
def WL (g : GS) : Prop := ∀ p q, p < 10 → q < 10 → g 39 (10 * p + q) = 1 → p < pls g ∧ q < pls g
def gP (g : GS) (x y k : Nat) : GS := sG (sG (sG g 36 (fs (g 36) (pls g) x)) 37 (fs (g 37) (pls g) y)) 38 (fs (g 38) (pls g) k)
def g31 (g : GS) (j v : Nat) : GS := sG g 31 (fs (g 31) j v)
/-- it lies too near to another -/
def ovB (g : GS) (p : Nat) : Bool := decide (0 < cnt (fun q => wiB g q p 0) p 0)
theorem gP_ah {g : GS} {x y k p q : Nat} (hp : p < pls g) (hq : q < pls g) : ahB (gP g x y k) p q = ahB g p q := by
  have e1 : (gP g x y k) 36 = fs (g 36) (pls g) x := rfl
  have e2 : (gP g x y k) 37 = fs (g 37) (pls g) y := rfl
  have e3 : (gP g x y k) 38 = fs (g 38) (pls g) k := rfl
  have e4 : (gP g x y k) 39 = g 39 := rfl
  have e5 : (gP g x y k) 32 = g 32 := rfl
  have e6 : (gP g x y k) 33 = g 33 := rfl
  unfold ahB
  rw [e1, e2, e3, e4, e5, e6]
  rw [fs_ne _ _ (show p ≠ pls g by omega), fs_ne _ _ (show q ≠ pls g by omega), fs_ne _ _ (show p ≠ pls g by omega), fs_ne _ _ (show q ≠ pls g by omega), fs_ne _ _ (show p ≠ pls g by omega), fs_ne _ _ (show q ≠ pls g by omega)]
theorem Wk.pl {g : GS} (hW : Wk g) {x y k : Nat} (hx : x ≤ 199) (hy : y ≤ 199) (hk : k < 8) : Wk (gP g x y k) := by
  obtain ⟨h1, h2, h3, h4, h5, h6, h7, h8, h9⟩ := hW
  refine ⟨h1, h2, fun p hp => ?_, h4, h5, h6, h7, h8, h9⟩
  have h3p := h3 p hp
  show fs (g 36) (pls g) x p ≤ 199 ∧ fs (g 37) (pls g) y p ≤ 199 ∧ fs (g 38) (pls g) k p < 8
  unfold fs
  split
  · exact ⟨hx, hy, hk⟩
  · exact h3p
theorem Rg_cong {n : Nat} {A B : Nat → Nat → Bool} (h : ∀ x y, x < n → y < n → A x y = B x y) : Rg n A ↔ Rg n B := by
  constructor
  · rintro ⟨S, h1, h2⟩
    refine ⟨S, h1, fun x hx sx => ?_⟩
    obtain ⟨y, a, b, c⟩ := h2 x hx sx
    exact ⟨y, a, b, by rw [← h y x a hx]; exact c⟩
  · rintro ⟨S, h1, h2⟩
    refine ⟨S, h1, fun x hx sx => ?_⟩
    obtain ⟨y, a, b, c⟩ := h2 x hx sx
    exact ⟨y, a, b, by rw [h y x a hx]; exact c⟩
section PL
variable {E : Env0} {d : Nat} {M : Mem} {Q : Int32 → Mem → Prop} {g : GS}
/-- what the reference's place may change -/
def sQ (M M' : Mem) : Prop := (∀ k, k ≠ 31 → k ≠ 36 → k ≠ 37 → k ≠ 38 → k ≠ 44 → M' k = M k) ∧ ∀ j, j ≠ 4 → j ≠ 16 → j ≠ 30 → j ≠ 28 → M' 31 j = M 31 j
theorem RC.j31 (h : RC g M) (j v : Nat) (hj : j = 4 ∨ (11 ≤ j ∧ j ≤ 16)) : RC (g31 g j v) (mset M 31 j (nI v)) := by
  obtain ⟨r1, r2, r3, r4⟩ := h
  have e31 : (g31 g j v) 31 = fs (g 31) j v := rfl
  refine ⟨fun k a b c j' => ?_, fun j' => ?_, ?_, fun j' a b => ?_⟩
  · rw [mset_ne _ _ _ (by omega), r1 k a b c j']
    have : g31 g j v k = g k := if_neg (by omega)
    rw [this]
  · rw [mset_ne _ _ _ (by omega)]; exact r2 j'
  · rw [mset_eq, e31]
    unfold upd fs
    split
    · rfl
    · exact r3
  · rw [mset_eq, e31]
    unfold upd fs
    split
    · rfl
    · exact r4 j' a b
theorem RC.o31 (h : RC g M) (j : Nat) (x : Int32) (hj : j ≠ 4) (hj2 : j < 11 ∨ 16 < j) : RC g (mset M 31 j x) := by
  obtain ⟨r1, r2, r3, r4⟩ := h
  refine ⟨fun k a b c j' => ?_, fun j' => ?_, ?_, fun j' a b => ?_⟩
  · rw [mset_ne _ _ _ (by omega)]; exact r1 k a b c j'
  · rw [mset_ne _ _ _ (by omega)]; exact r2 j'
  · rw [mset_eq]
    unfold upd
    rw [if_neg (by omega)]; exact r3
  · rw [mset_eq]
    unfold upd
    rw [if_neg (by omega)]; exact r4 j' a b
theorem RC.pl (h : RC g M) (x y k : Nat) : RC (gP g x y k) (mset (mset (mset M 36 (pls g) (nI x)) 37 (pls g) (nI y)) 38 (pls g) (nI k)) := by
  obtain ⟨r1, r2, r3, r4⟩ := h
  have ne : ∀ k', k' ≠ 36 → k' ≠ 37 → k' ≠ 38 → mset (mset (mset M 36 (pls g) (nI x)) 37 (pls g) (nI y)) 38 (pls g) (nI k) k' = M k' := by
    intro k' a b c
    rw [mset_ne _ _ _ c, mset_ne _ _ _ b, mset_ne _ _ _ a]
  have up : ∀ (f : Nat → Nat) (m : Nat → Int32) (v : Nat), (∀ j, m j = nI (f j)) → ∀ j, upd m (pls g) (nI v) j = nI (fs f (pls g) v j) := by
    intro f m v hm j
    unfold upd fs
    split
    · rfl
    · exact hm j
  refine ⟨fun k' a b c j => ?_, fun j => ?_, ?_, fun j a b => ?_⟩
  · by_cases h36 : k' = 36
    · subst h36
      rw [mset_ne _ _ _ (by omega), mset_ne _ _ _ (by omega), mset_eq]
      exact up _ _ x (r1 36 (by omega) (by omega) (by omega)) j
    · by_cases h37 : k' = 37
      · subst h37
        rw [mset_ne _ _ _ (by omega), mset_eq, mset_ne _ _ _ (by omega)]
        exact up _ _ y (r1 37 (by omega) (by omega) (by omega)) j
      · by_cases h38 : k' = 38
        · subst h38
          rw [mset_eq, mset_ne _ _ _ (by omega), mset_ne _ _ _ (by omega)]
          exact up _ _ k (r1 38 (by omega) (by omega) (by omega)) j
        · rw [ne k' h36 h37 h38, r1 k' a b c j]
          have : gP g x y k k' = g k' := by
            show sG (sG (sG g 36 _) 37 _) 38 _ k' = g k'
            unfold sG
            rw [if_neg h38, if_neg h37, if_neg h36]
          rw [this]
  · rw [ne 40 (by omega) (by omega) (by omega)]; exact r2 j
  · rw [ne 31 (by omega) (by omega) (by omega)]; exact r3
  · rw [ne 31 (by omega) (by omega) (by omega)]; exact r4 j a b
theorem within_no {X Y : Int32} {Z : Int32} (h : decide (Y ≤ X ∧ X ≤ Z) = false) : ¬ (Y ≤ X ∧ X ≤ Z) := of_decide_eq_false h
/-- is X, Y a point and K a kind? -/
def ptB (X Y K : Int32) : Bool := decide ((0 : Int32) ≤ X ∧ X ≤ nI 199) && (decide ((0 : Int32) ≤ Y ∧ Y ≤ nI 199) && decide ((0 : Int32) ≤ K ∧ K ≤ nI 7))
theorem c_M_place {X Y K : Int32} (hR : RC g M) (hW : Wk g) (h39 : ∀ p, g 39 (10 * p + p) = 0)
    (k0 : (ptB X Y K && decide (pls g < 10)) = false → Q (-1) M)
    (k1 : ∀ x y k, X = nI x → Y = nI y → K = nI k → x ≤ 199 → y ≤ 199 → k ≤ 7 → pls g < 10 → (ovB (gP g x y k) (pls g) = true ∨ Rg (pls g + 1) (ahB (gP g x y k))) → ∀ M', sQ M M' → RC (gP g x y k) M' → M' 31 16 = M 31 16 → M' 31 28 = M 31 28 → M' 31 30 = M 31 30 → Q (-1) M')
    (k2 : ∀ x y k, X = nI x → Y = nI y → K = nI k → x ≤ 199 → y ≤ 199 → k ≤ 7 → pls g < 10 → ovB (gP g x y k) (pls g) = false → ¬ Rg (pls g + 1) (ahB (gP g x y k)) → ∀ M', sQ M M' → RC (g31 (g31 (gP g x y k) 4 (pls g + 1)) 16 0) M' → M' 31 28 = 0 → M' 31 30 = 0 → Q (nI (pls g)) M') : CE E (d + 4) n_M_place [.inr 31, .inl X, .inl Y, .inl K] M Q := by
  have hp10 := hW.1
  have h4 : M 31 4 = nI (pls g) := hR.2.2.1
  unfold ptB at k0
  refine CE_of rfl (b_M_place_0 _ _ _ (c_M_lies ⟨fun c1 => ?_, fun c1 => c_M_lies ⟨fun c2 => ?_, fun c2 => c_M_lies ⟨fun c3 => ?_, fun c3 => ⟨fun c4 => ?_, fun c4 => ?_⟩⟩⟩⟩))
  · rw [b2_z] at c1
    exact k0 (by rw [show decide ((0 : Int32) ≤ X ∧ X ≤ nI 199) = false from c1]; rfl)
  · rw [b2_z] at c2
    exact k0 (by rw [show decide ((0 : Int32) ≤ Y ∧ Y ≤ nI 199) = false from c2]; simp)
  · rw [b2_z] at c3
    exact k0 (by rw [show decide ((0 : Int32) ≤ K ∧ K ≤ nI 7) = false from c3]; simp)
  · rw [b2_nz] at c1 c2 c3
    rw [h4, show (10 : Int32) = nI 10 from rfl, nI_eq (by omega) (by omega)] at c4
    obtain ⟨x, hx, ex⟩ := within_rng (m := 199) (by omega) c1
    obtain ⟨y, hy, ey⟩ := within_rng (m := 199) (by omega) c2
    obtain ⟨k, hk, ek⟩ := within_rng (m := 7) (by omega) c3
    have k1 := k1 x y k ex ey ek hx hy hk (by omega)
    have k2 := k2 x y k ex ey ek hx hy hk (by omega)
    have v : vp_in (nI (pls g)) 10 := vp_in_nI (by omega) (by omega)
    rw [h4, nI_clamp (by omega), ex, ey, ek]
    refine ⟨v, v, v, ?_⟩
    have hR1 := hR.pl x y k
    have hW1 := hW.pl hx hy (show k < 8 by omega)
    have s1 : sQ M (mset (mset (mset M 36 (pls g) (nI x)) 37 (pls g) (nI y)) 38 (pls g) (nI k)) := ⟨fun k' a b c d _ => by rw [mset_ne _ _ _ d, mset_ne _ _ _ c, mset_ne _ _ _ b], fun j _ _ _ _ => by rw [mset_ne _ _ _ (by omega), mset_ne _ _ _ (by omega), mset_ne _ _ _ (by omega)]⟩
    have e31 : mset (mset (mset M 36 (pls g) (nI x)) 37 (pls g) (nI y)) 38 (pls g) (nI k) 31 = M 31 := by rw [mset_ne _ _ _ (by omega), mset_ne _ _ _ (by omega), mset_ne _ _ _ (by omega)]
    generalize mset (mset (mset M 36 (pls g) (nI x)) 37 (pls g) (nI y)) 38 (pls g) (nI k) = M1 at *
    have h41 : M1 31 4 = nI (pls g) := by rw [e31]; exact h4
    have L76 : ∀ (n q : Nat) (o1 o2 o3 : Option V), q + n = pls g → ovB (gP g x y k) (pls g) = decide (0 < cnt (fun q => wiB (gP g x y k) q (pls g) 0) n q) → JE E (d + 4) n_M_place 76 [some (.inr 31), o1, o2, o3, some (.inl (nI q))] [] M1 Q := by
      intro n
      induction n with
      | zero =>
        intro q o1 o2 o3 hq hov
        have hov : ovB (gP g x y k) (pls g) = false := by rw [hov, cnt]; rfl
        refine b_M_place_76 _ _ _ _ ⟨fun _ => ?_, fun c5 => absurd (by rw [h41]; exact nI_le (by omega) (by omega)) c5⟩
        rw [h41, nI_1]
        have hR2 := hR1.j31 4 (pls g + 1) (by omega)
        have hW2 : Wk (g31 (gP g x y k) 4 (pls g + 1)) := by
          obtain ⟨h1, h2, h3, h4, h5, h6, h7, h8, h9⟩ := hW1
          refine ⟨(by show pls g + 1 ≤ 10; omega), h2, h3, h4, h5, h6, h7, h8, fun i hi => ⟨(h9 i hi).1, ?_⟩⟩
          have := (h9 i hi).2
          show plc g i < pls g + 1
          have : plc g i < pls g := this
          omega
        refine c_M_isRing hR2 hW2 h39 (fun M2 r s2 hr => ?_)
        have hr : r = true ↔ Rg (pls g + 1) (ahB (gP g x y k)) := hr
        have e2 : ∀ j, M2 31 j = upd (M1 31) 4 (nI (pls g + 1)) j := fun j => by rw [s2 31 (by omega), mset_eq]
        have hR3 : RC (g31 (gP g x y k) 4 (pls g + 1)) M2 := hR2.s44 s2
        have sM2 : sQ M M2 := ⟨fun k' a b c d e => by rw [s2 k' e, mset_ne _ _ _ a]; exact s1.1 k' a b c d e, fun j a b c d => by rw [e2 j, e31]; exact if_neg a⟩
        refine ⟨fun c6 => ⟨z01_0, z01_0, ?_⟩, fun c6 => ?_⟩
        · rw [b2_z] at c6
          have hnr : ¬ Rg (pls g + 1) (ahB (gP g x y k)) := fun z => by rw [hr.mpr z] at c6; exact absurd c6 (by decide)
          have e4 : M2 31 4 - 1 = nI (pls g) := by
            rw [e2 4]
            exact nI_sub1 (pls g)
          rw [e4]
          refine k2 hov hnr _ ⟨fun k' a b c d e => ?_, fun j a b c d => ?_⟩ (((hR3.j31 16 0 (by omega)).o31 30 0 (by omega) (by omega)).o31 28 0 (by omega) (by omega)) ?_ ?_
          · rw [mset_ne _ _ _ a, mset_ne _ _ _ a, mset_ne _ _ _ a]
            exact sM2.1 k' a b c d e
          · simp only [mset_eq, upd]
            rw [if_neg d, if_neg c, if_neg b]
            exact sM2.2 j a b c d
          · rw [mset_eq]; exact if_pos rfl
          · rw [mset_eq, mset_eq]; rfl
        · rw [b2_nz] at c6
          have e4 : M2 31 4 - 1 = nI (pls g) := by
            rw [e2 4]
            exact nI_sub1 (pls g)
          rw [e4]
          have o : ∀ j, j ≠ 4 → mset M2 31 4 (nI (pls g)) 31 j = M 31 j := fun j hj => by
            rw [mset_eq]
            unfold upd
            rw [if_neg hj, e2 j, e31]
            exact if_neg hj
          refine k1 (Or.inr (hr.mp c6)) _ ⟨fun k' a b c d e => ?_, fun j a b c d => o j a⟩ ?_ (o 16 (by omega)) (o 28 (by omega)) (o 30 (by omega))
          · rw [mset_ne _ _ _ a]
            exact sM2.1 k' a b c d e
          · have hR4 := hR3.j31 4 (pls g) (by omega)
            have eg : g31 (g31 (gP g x y k) 4 (pls g + 1)) 4 (pls g) = gP g x y k := by
              funext k' j
              unfold g31 sG
              by_cases hk' : k' = 31
              · rw [if_pos hk']
                subst hk'
                unfold fs
                split
                · next e => rw [e]; rfl
                · next e => rw [if_pos rfl, if_neg e]
              · rw [if_neg hk', if_neg hk']
            rw [eg] at hR4
            exact hR4
      | succ n ih =>
        intro q o1 o2 o3 hq hov
        rw [cnt] at hov
        refine b_M_place_76 _ _ _ _ ⟨fun c5 => absurd c5 (by rw [h41]; exact nI_ge (by omega) (by omega)), fun _ => ?_⟩
        rw [h41]
        refine c_M_areWithin (m := 0) hR1 hW1 (by omega) (by omega) (by omega) ⟨fun c6 => ?_, fun c6 => ?_⟩
        · rw [b2_z] at c6
          rw [c6] at hov
          simp only [Bool.false_eq_true, if_false, Nat.zero_add] at hov
          rw [nI_1]
          exact ih (q + 1) _ _ _ (by omega) hov
        · rw [b2_nz] at c6
          rw [c6] at hov
          have : ovB (gP g x y k) (pls g) = true := by rw [hov]; simp; omega
          exact k1 (Or.inl this) M1 s1 hR1 (by rw [e31]) (by rw [e31]) (by rw [e31])
    exact L76 (pls g) 0 _ _ _ (by omega) rfl
  · rw [h4, show (10 : Int32) = nI 10 from rfl, nI_eq (by omega) (by omega)] at c4
    have : decide (pls g < 10) = false := by simp; omega
    exact k0 (by rw [this]; simp)
end PL
