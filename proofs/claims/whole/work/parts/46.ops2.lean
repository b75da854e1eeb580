/-! More operations. -/
theorem laF_oth : ∀ (f n : Nat) (g : GS) (k : Nat), k ≠ 40 → k ≠ 41 → (laF f n g).2 k = g k
  | 0, _, _, _, _, _ => rfl
  | f + 1, n, g, k, a, b => by
    rw [laF]
    split
    · rw [laF_oth f (n + 1) _ k a b]
      unfold exG
      rw [if_neg a, if_neg b]
    · rfl
theorem laF_ge : ∀ (f n : Nat) (g : GS), n ≤ (laF f n g).1
  | 0, n, _ => Nat.le_refl n
  | f + 1, n, g => by
    rw [laF]
    split
    · have := laF_ge f (n + 1) (exG g (scN g).2.1 (scN g).2.2)
      omega
    · exact Nat.le_refl n
theorem laN_0 {g : GS} (h : (laN g).1 = 0) : (laN g).2 = g := by
  unfold laN at *
  rw [laF] at *
  split
  · next c =>
    rw [if_pos c] at h
    have := laF_ge (tkN g) (0 + 1) (exG g (scN g).2.1 (scN g).2.2)
    omega
  · rfl
theorem rng1 {X : Int32} {m : Nat} (hm : m < 2 ^ 31) (h : decide ((1 : Int32) ≤ X ∧ X ≤ nI m) = true) : ∃ x, 1 ≤ x ∧ x ≤ m ∧ X = nI x := by
  obtain ⟨h1, h2⟩ := of_decide_eq_true h
  obtain ⟨x, a, b⟩ := nI_rng hm (Int32.le_trans (by decide) h1) h2
  refine ⟨x, ?_, a, b⟩
  rw [b, one_nI, nI_leI (by omega) (by omega)] at h1
  exact h1
theorem RC.cg {g g' : GS} {M : Mem} (h : RC g M) (e1 : ∀ k, 32 ≤ k → k ≤ 42 → g' k = g k) (e2 : g' 31 4 = g 31 4) (e3 : ∀ j, 11 ≤ j → j ≤ 16 → g' 31 j = g 31 j) : RC g' M := by
  obtain ⟨r1, r2, r3, r4⟩ := h
  refine ⟨fun k a b c j => ?_, fun j => ?_, ?_, fun j a b => ?_⟩
  · rw [e1 k a b]; exact r1 k a b c j
  · rw [e1 40 (by omega) (by omega)]; exact r2 j
  · rw [e2]; exact r3
  · rw [e3 j a b]; exact r4 j a b
theorem RC.frM {g : GS} {M M' : Mem} (h : RC g M) (e1 : ∀ k, 32 ≤ k → k ≤ 42 → M' k = M k) (e2 : ∀ j, j = 4 ∨ (11 ≤ j ∧ j ≤ 16) → M' 31 j = M 31 j) : RC g M' := by
  obtain ⟨r1, r2, r3, r4⟩ := h
  refine ⟨fun k a b c j => ?_, fun j => ?_, ?_, fun j a b => ?_⟩
  · rw [e1 k a b]; exact r1 k a b c j
  · rw [e1 40 (by omega) (by omega)]; exact r2 j
  · rw [e2 4 (by omega)]; exact r3
  · rw [e2 j (by omega)]; exact r4 j a b
theorem VE.j31 {g : GS} {j v : Nat} (h1 : j ≠ 4) (h2 : j < 11 ∨ 15 < j) : VE g (g31 g j v) := ⟨fs_ne _ _ (fun e => h1 e.symm), fun _ _ _ => fs_ne _ _ (by omega), fun _ _ => ⟨rfl, rfl, rfl, rfl, rfl⟩, fun _ _ _ _ => rfl⟩
/-- the plan is dropped -/
theorem DC.clr {g : GS} {M M' : Mem} (hD : DC g M) (e0 : ∀ k, 1 ≤ k → k ≤ 14 → M' k = M k) (e1 : M' 15 1 = 0) (e2 : M' 15 2 = 0) : DC (g31 g 16 0) M' := by
  obtain ⟨hK, hP, hS, hG, hR⟩ := hD
  refine ⟨?_, ?_, ?_, ?_, ?_⟩
  · unfold DK at *
    simp only [e0 2 (by omega) (by omega), e0 3 (by omega) (by omega), e0 4 (by omega) (by omega), e0 5 (by omega) (by omega)]
    exact hK
  · unfold DP at *
    simp only [e0 1 (by omega) (by omega), e0 6 (by omega) (by omega), e0 7 (by omega) (by omega), e0 8 (by omega) (by omega), e0 9 (by omega) (by omega), e0 10 (by omega) (by omega)]
    exact hP
  · unfold DS at *
    rw [e0 12 (by omega) (by omega), e0 13 (by omega) (by omega)]
    exact hS
  · unfold DG at *
    rw [e0 14 (by omega) (by omega)]
    exact hG
  · refine ⟨e1, ?_, fun i hi => absurd hi (by show ¬ i < 0; omega)⟩
    rw [e2, bitsOf_none (fun i _ => inP_0 rfl i)]
    rfl
theorem Wk.clr {g : GS} (hW : Wk g) : Wk (g31 g 16 0) := by
  obtain ⟨h1, h2, h3, h4, h5, h6, h7, h8, h9⟩ := hW
  exact ⟨h1, by show 0 ≤ 10; omega, h3, h4, h5, h6, h7, h8, fun i hi => absurd hi (by show ¬ i < 0; omega)⟩
theorem Wp.clr {g : GS} (hp : Wp g) : Wp (g31 g 16 0) := ⟨fun i j _ h => absurd h (by show ¬ j < 0; omega), fun h => absurd h (by show ¬ 0 < 0; omega), hp.2.2⟩
theorem VE.s43 {g : GS} {f : Nat → Nat} : VE g (sG g 43 f) := ⟨rfl, fun _ _ _ => rfl, fun _ _ => ⟨rfl, rfl, rfl, rfl, rfl⟩, fun _ _ _ _ => rfl⟩
section OQ
variable {E : Env0} {d : Nat} {M : Mem} {Q : Int32 → Int32 → Mem → Prop}
theorem op_clear (h : RX M) (k : ∀ r M', M' 1000 = M 1000 → RX M' → Q r r M') : CE E (d + 2) n_D_clear [.inr 0] M (fun r1 M1 => CE E (d + 2) n_M_clear [.inr 31] M1 (fun r2 M2 => Q r1 r2 M2)) := by
  obtain ⟨g, hr, ov, i, t, stp, rs, hI, hM, hD⟩ := id h
  obtain ⟨⟨hW, hp, hL, hRg⟩, ⟨h19, hmis⟩, ⟨hpa, hst⟩, ⟨hhr, hov⟩, hrb, hri, hout⟩ := id hI
  refine CE_of rfl (b_D_clear_0 (c_D_dropPlan (fun M1 f0 f1 f2 f3 f4 => CE_of rfl (b_M_clear_0 ⟨z01_0, ?_⟩))))
  have hM1 : RelM g hr ov i t stp rs M1 := hM.fr (fun k1 a b _ _ _ _ _ => f0 k1 (by omega) (by omega))
  obtain ⟨hC, hX, h48, hs, hMr, hK⟩ := hM1
  have ne : ∀ k', k' ≠ 31 → mset (mset M1 31 16 0) 31 30 0 k' = M1 k' := fun k' hk' => by rw [mset_ne _ _ _ hk', mset_ne _ _ _ hk']
  have n31 : ∀ j, j ≠ 16 → j ≠ 30 → mset (mset M1 31 16 0) 31 30 0 31 j = M1 31 j := fun j a b => by
    simp only [mset_eq, upd]
    rw [if_neg b, if_neg a]
  refine k _ _ (by rw [ne 1000 (by omega)]; exact f0 1000 (by omega) (by omega)) ?_
  refine RX.mk0 (g := g31 g 16 0) (ov := ov) (i := i) (t := t) (st := rs.1) ⟨hW.clr, hp.clr, hL, hRg⟩ ⟨h19, hmis⟩ hst hout (fun p => ?_) hov ((hC.j31 16 0 (by omega)).o31 30 0 (by omega) (by omega)) ⟨fun n => ?_, ?_⟩ ?_ ?_ ?_ ?_ ?_ (hD.1.clr (fun k' a b => ?_) ?_ ?_) ⟨fun n hnn => ?_, ?_⟩ ?_
  · rw [ne 48 (by omega)]; exact h48 p
  · rw [ne 43 (by omega)]; exact hX.1 n
  · rw [n31 19 (by omega) (by omega)]; exact hX.2
  · rw [mset_eq]; exact if_pos rfl
  · rw [n31 31 (by omega) (by omega)]; exact hs.2.1
  · rw [n31 32 (by omega) (by omega)]; exact hs.2.2.1
  · rw [n31 35 (by omega) (by omega)]; exact hs.2.2.2
  · exact hK.view (VE.j31 (by omega) (by omega)) (n31 28 (by omega) (by omega)) (n31 29 (by omega) (by omega)) (ne 47 (by omega))
  · rw [ne k' (by omega)]; exact f0 k' (by omega) (by omega)
  · rw [ne 15 (by omega)]; exact f3
  · rw [ne 15 (by omega)]; exact f4
  · rw [ne 28 (by omega), f0 28 (by omega) (by omega)]; exact hD.2.1.1 n hnn
  · rw [ne 26 (by omega), f1 6 (by omega)]; exact hD.2.1.2
  · rw [ne 26 (by omega)]; exact f2
theorem op_ahead {X Y : Int32} (h : RX M) (k : ∀ r M', M' 1000 = M 1000 → RX M' → Q r r M') : CE E (d + 3) n_D_ahead [.inr 0, .inl X, .inl Y] M (fun r1 M1 => CE E (d + 3) n_M_ahead [.inr 31, .inl X, .inl Y] M1 (fun r2 M2 => Q r1 r2 M2)) := by
  obtain ⟨g, hr, ov, i, t, stp, rs, hI, hM, hD⟩ := id h
  obtain ⟨⟨hW, hp, hL, hRg⟩, -⟩ := id hI
  have hp10 := hW.1
  have md : twB g X Y = false → CE E (d + 3) n_M_ahead [.inr 31, .inl X, .inl Y] M (fun r2 M2 => Q (-1) r2 M2) := by
    intro ht
    unfold twB at ht
    refine CE_of rfl (b_M_ahead_0 _ _ (c_M_isPlace hM.1 ⟨fun c1 => k _ M rfl h, fun c1 => c_M_isPlace hM.1 ⟨fun c2 => k _ M rfl h, fun c2 => ⟨fun c3 => ?_, fun c3 => k _ M rfl h⟩⟩⟩))
    rw [b2_nz] at c1 c2
    have : decide (X ≠ Y) = true := by simp [c3]
    rw [c1, c2, this] at ht
    exact absurd ht (by decide)
  refine CE_of rfl (b_D_ahead_0 _ _ (c_D_areTwoPlaces hD.1 ⟨fun c1 => ?_, fun c1 => md (b2_z.mp c1)⟩))
  obtain ⟨p, q, h1, h2, h3, ex, ey⟩ := tw_rng hW (b2_nz.mp c1)
  subst ex ey
  have e9 : M 9 (Int32.toNatClampNeg (nI q)) = nI (bitsOf (fun z => ahB g z q) (pls g)) := by
    rw [nI_clamp (by omega)]
    exact (hD.1.2.1.2.1 q h2).2.2.2.1
  have hl : bitsOf (fun z => ahB g z q) (pls g) < 2 ^ 31 := by
    have := bitsOf_lt (fun z => ahB g z q) (pls g)
    have : 2 ^ pls g ≤ 2 ^ 10 := Nat.pow_le_pow_right (by omega) hp10
    omega
  rw [e9]
  refine ⟨vp_in_nI (by omega) (by omega), c_D_hasBit hl (by omega) ?_⟩
  have tb : (bitsOf (fun z => ahB g z q) (pls g)).testBit p = ahB g p q := by
    rw [bitsOf_bit]
    have : decide (p < pls g) = true := by simp [h1]
    rw [this, Bool.true_and]
  rw [tb]
  have t0 := b2_nz.mp c1
  unfold twB at t0
  rw [Bool.and_eq_true, Bool.and_eq_true] at t0
  have md2 : ∀ x : Int32, (x = if ahB g p q then 1 else 0) → CE E (d + 3) n_M_ahead [.inr 31, .inl (nI p), .inl (nI q)] M (fun r2 M2 => Q x r2 M2) := by
    intro x hx
    refine CE_of rfl (b_M_ahead_0 _ _ (c_M_isPlace hM.1 ⟨fun c2 => ?_, fun _ => c_M_isPlace hM.1 ⟨fun c2 => ?_, fun _ => ⟨fun _ => c_M_isAhead hM.1 hW (by omega) (by omega) ⟨fun c3 => ?_, fun c3 => ?_⟩, fun c2 => absurd ((nI_eq (by omega) (by omega)).mp c2) h3⟩⟩⟩))
    · rw [b2_z, t0.1] at c2
      exact absurd c2 (by decide)
    · rw [b2_z, t0.2.1] at c2
      exact absurd c2 (by decide)
    · rw [b2_z] at c3
      rw [c3] at hx
      rw [hx]
      exact k _ M rfl h
    · rw [b2_nz] at c3
      rw [c3] at hx
      rw [hx]
      exact k _ M rfl h
  refine ⟨fun c2 => md2 0 ?_, fun c2 => md2 1 ?_⟩
  · rw [b2_z] at c2
    rw [c2]
    rfl
  · rw [b2_nz] at c2
    rw [c2]
    rfl
theorem op_miss {X : Int32} (h : RX M) (k : ∀ r M', M' 1000 = M 1000 → RX M' → Q r r M') : CE E (d + 1) n_D_miss [.inr 0, .inl X] M (fun r1 M1 => CE E (d + 1) n_M_miss [.inr 31, .inl X] M1 (fun r2 M2 => Q r1 r2 M2)) := by
  obtain ⟨g, hr, ov, i, t, stp, rs, hI, hM, hD⟩ := id h
  obtain ⟨⟨hW, hp, hL, hRg⟩, ⟨h19, hmis⟩, ⟨hpa, hst⟩, ⟨hhr, hov⟩, hrb, hri, hout⟩ := id hI
  refine CE_of rfl (b_D_miss_0 _ (c_D_isWithin ⟨fun c1 => ⟨z01_0, ?_⟩, fun c1 => ?_⟩))
  · exact CE_of rfl (b_M_miss_0 _ (c_M_lies ⟨fun c2 => ⟨z01_0, k _ M rfl h⟩, fun c2 => absurd c1 c2⟩))
  · obtain ⟨n, h1, h2, en⟩ := rng1 (m := 200) (by omega) (b2_nz.mp c1)
    have v : vp_in X 201 := by rw [en]; exact vp_in_nI (by omega) (by omega)
    have hX := hM.2.1
    have hY := hD.2.1
    have e28 : M 28 (Int32.toNatClampNeg X) = nI (g 43 n) := by rw [en, nI_clamp (by omega)]; exact hY.1 n h2
    have e43 : M 43 (Int32.toNatClampNeg X) = nI (g 43 n) := by rw [en, nI_clamp (by omega)]; exact hX.1 n
    refine ⟨v, fun c2 => ⟨v, z01_1, z01_1, ?_⟩, fun c2 => ⟨z01_0, ?_⟩⟩
    · have hM1 : RelM g hr ov i t stp rs (mset M 28 (Int32.toNatClampNeg X) 1) := hM.fr (fun k1 a b _ _ _ _ _ => mset_ne _ _ _ (by omega))
      have f43 : mset M 28 (Int32.toNatClampNeg X) 1 43 (Int32.toNatClampNeg X) = 0 := by
        rw [mset_ne _ _ _ (by omega), e43, ← e28]
        exact c2
      refine CE_of rfl (b_M_miss_0 _ (c_M_lies ⟨fun c3 => absurd c3 c1, fun _ => ⟨v, fun _ => ⟨v, z01_1, z01_1, ?_⟩, fun c3 => absurd f43 c3⟩⟩))
      have ei : Int32.toNatClampNeg X = n := by rw [en]; exact nI_clamp (by omega)
      rw [ei] at hM1 ⊢
      obtain ⟨hC, hX, h48, hs, hMr, hK⟩ := hM1
      refine k _ _ (by rw [mset_ne _ _ _ (by omega), mset_ne _ _ _ (by omega)]) ⟨sG g 43 (fs (g 43) n 1), hr, ov, i, t, stp, rs, ⟨⟨hW, hp, hL, hRg⟩, ⟨h19, fun m => ?_⟩, ⟨hpa, hst⟩, ⟨hhr, hov⟩, hrb, hri, hout⟩, ⟨?_, ⟨fun m => ?_, ?_⟩, fun p => ?_, ?_, fun z => ?_, ?_⟩, ?_⟩
      · show fs (g 43) n 1 m ≤ 1
        unfold fs
        split
        · omega
        · exact hmis m
      · refine RC.cg (RC.frM hC (fun k1 a b => mset_ne _ _ _ (by omega)) (fun j _ => by rw [mset_ne _ _ _ (by omega)])) (fun k1 a b => if_neg (by omega)) rfl (fun _ _ _ => rfl)
      · rw [mset_eq]
        show upd _ n 1 m = nI (fs (g 43) n 1 m)
        unfold upd fs
        split
        · rfl
        · exact hX.1 m
      · rw [mset_ne _ _ _ (by omega)]; exact hX.2
      · rw [mset_ne _ _ _ (by omega)]; exact h48 p
      · rw [mset_ne _ _ _ (by omega)]; exact hs
      · unfold HM
        rw [mset_ne _ _ _ (by omega)]; exact hMr z
      · exact hK.view VE.s43 (by rw [mset_ne _ _ _ (by omega)]) (by rw [mset_ne _ _ _ (by omega)]) (mset_ne _ _ _ (by omega))
      · obtain ⟨d1, ⟨d2, d3⟩, d4, d5, d6⟩ := hD
        have ne : ∀ k1, k1 ≠ 28 → k1 ≠ 43 → mset (mset M 28 n 1) 43 n 1 k1 = M k1 := fun k1 a b => by rw [mset_ne _ _ _ b, mset_ne _ _ _ a]
        refine ⟨d1.fr (fun k1 a b => ne k1 (by omega) (by omega)), ⟨fun m hm => ?_, ?_⟩, ?_, ?_, ?_⟩
        · rw [mset_ne _ _ _ (by omega), mset_eq]
          show upd _ n 1 m = nI (fs (g 43) n 1 m)
          unfold upd fs
          split
          · rfl
          · exact d2 m hm
        · rw [ne 26 (by omega) (by omega)]; exact d3
        · rw [ne 26 (by omega) (by omega)]; exact d4
        · unfold DTr HD at *
          rw [ne 26 (by omega) (by omega), ne 27 (by omega) (by omega)]; exact d5
        · rw [ne 26 (by omega) (by omega)]; exact d6
    · refine CE_of rfl (b_M_miss_0 _ (c_M_lies ⟨fun c3 => absurd c3 c1, fun _ => ⟨v, fun c3 => ?_, fun _ => ⟨z01_0, k _ M rfl h⟩⟩⟩))
      exact absurd (by rw [e28, ← e43]; exact c3) c2
theorem op_again {X : Int32} (h : RX M) (k : ∀ r M', M' 1000 = M 1000 → RX M' → Q r r M') : CE E (d + 1) n_D_again [.inr 0, .inl X] M (fun r1 M1 => CE E (d + 1) n_M_again [.inr 31, .inl X] M1 (fun r2 M2 => Q r1 r2 M2)) := by
  obtain ⟨g, hr, ov, i, t, stp, rs, hI, hM, hD⟩ := id h
  obtain ⟨⟨hW, hp, hL, hRg⟩, ⟨h19, hmis⟩, ⟨hpa, hst⟩, ⟨hhr, hov⟩, hrb, hri, hout⟩ := id hI
  refine CE_of rfl (b_D_again_0 _ (c_D_isWithin ⟨fun c1 => ⟨z01_1, ?_⟩, fun c1 => ⟨z01_0, ?_⟩⟩))
  · obtain ⟨n, h1, en⟩ := within_rng (m := 3) (by omega) (b2_nz.mp c1)
    refine CE_of rfl (b_M_again_0 _ (c_M_lies ⟨fun _ => ⟨z01_1, ?_⟩, fun c3 => absurd c3 c1⟩))
    have hM1 : RelM g hr ov i t stp rs (mset M 26 6 X) := hM.fr (fun k1 a b _ _ _ _ _ => mset_ne _ _ _ (by omega))
    obtain ⟨hC, hX, h48, hs, hMr, hK⟩ := hM1
    have ne : ∀ k1, k1 ≠ 31 → mset (mset M 26 6 X) 31 19 X k1 = mset M 26 6 X k1 := fun k1 a => mset_ne _ _ _ a
    have n31 : ∀ j, j ≠ 19 → mset (mset M 26 6 X) 31 19 X 31 j = mset M 26 6 X 31 j := fun j a => by rw [mset_eq]; exact if_neg a
    refine k _ _ (by rw [ne 1000 (by omega), mset_ne _ _ _ (by omega)]) ⟨g31 g 19 n, hr, ov, i, t, stp, rs, ⟨⟨hW, hp, hL, hRg⟩, ⟨h1, hmis⟩, ⟨hpa, hst⟩, ⟨hhr, hov⟩, hrb, hri, hout⟩, ⟨?_, ⟨fun m => ?_, ?_⟩, fun p => ?_, ?_, fun z => ?_, ?_⟩, ?_⟩
    · refine RC.cg (RC.frM hC (fun k1 a b => ne k1 (by omega)) (fun j hj => n31 j (by omega))) (fun k1 a b => if_neg (by omega)) rfl (fun j a b => fs_ne _ _ (by omega))
    · rw [ne 43 (by omega)]; exact hX.1 m
    · rw [mset_eq, en]
      show upd _ 19 (nI n) 19 = nI n
      exact if_pos rfl
    · rw [ne 48 (by omega)]; exact h48 p
    · rw [n31 30 (by omega), n31 31 (by omega), n31 32 (by omega), n31 35 (by omega)]; exact hs
    · unfold HM
      rw [n31 21 (by omega), n31 22 (by omega), n31 23 (by omega), n31 24 (by omega), n31 33 (by omega), n31 34 (by omega), n31 36 (by omega)]
      exact hMr z
    · exact hK.view (VE.j31 (by omega) (by omega)) (n31 28 (by omega)) (n31 29 (by omega)) (ne 47 (by omega))
    · obtain ⟨d1, ⟨d2, d3⟩, d4, d5, d6⟩ := hD
      have nf : ∀ k1, k1 ≠ 26 → k1 ≠ 31 → mset (mset M 26 6 X) 31 19 X k1 = M k1 := fun k1 a b => by rw [mset_ne _ _ _ b, mset_ne _ _ _ a]
      have n26 : ∀ j, j ≠ 6 → mset (mset M 26 6 X) 31 19 X 26 j = M 26 j := fun j a => by rw [mset_ne _ _ _ (by omega), mset_eq]; exact if_neg a
      refine ⟨d1.fr (fun k1 a b => nf k1 (by omega) (by omega)), ⟨fun m hm => ?_, ?_⟩, ?_, fun z => ?_, fun z z2 => ?_⟩
      · rw [nf 28 (by omega) (by omega)]; exact d2 m hm
      · rw [mset_ne _ _ _ (by omega), mset_eq, en]
        show upd _ 6 (nI n) 6 = nI n
        exact if_pos rfl
      · rw [n26 7 (by omega)]; exact d4
      · unfold DTr HD at *
        rw [n26 8 (by omega), n26 14 (by omega), n26 15 (by omega), n26 10 (by omega), n26 11 (by omega), n26 12 (by omega), n26 13 (by omega), nf 27 (by omega) (by omega)]
        exact d5 z
      · rw [n26 9 (by omega)]; exact d6 z z2
  · exact CE_of rfl (b_M_again_0 _ (c_M_lies ⟨fun c2 => absurd c1 c2, fun c2 => ⟨z01_0, k _ M rfl h⟩⟩))
end OQ
