/-! Operations: machine, kind, feeder. -/
def gM (g : GS) (a b c e f : Nat) : GS := g31 (g31 (g31 (g31 (g31 g 11 a) 12 b) 13 c) 14 e) 15 f
def gK (g : GS) (k a b c z : Nat) : GS := sG (sG (sG (sG g 32 (fs (g 32) k a)) 33 (fs (g 33) k b)) 34 (fs (g 34) k c)) 35 (fs (g 35) k z)
def gF (g : GS) (s k n : Nat) : GS := sG (sG g 40 (fs (g 40) s k)) 41 (fs (g 41) s n)
theorem upd_fs {m : Nat → Int32} {f : Nat → Nat} {j v : Nat} (h : ∀ i, m i = nI (f i)) (i : Nat) : upd m j (nI v) i = nI (fs f j v i) := by
  unfold upd fs
  split
  · rfl
  · exact h i
section OT
variable {E : Env0} {d : Nat} {M : Mem} {Q : Int32 → Int32 → Mem → Prop}
theorem op_machine {X1 X2 X3 X4 X5 : Int32} (h : RX M) (k : ∀ r M', M' 1000 = M 1000 → RX M' → Q r r M') : CE E (d + 2) n_D_machine [.inr 0, .inl X1, .inl X2, .inl X3, .inl X4, .inl X5] M (fun r1 M1 => CE E (d + 2) n_M_machine [.inr 31, .inl X1, .inl X2, .inl X3, .inl X4, .inl X5] M1 (fun r2 M2 => Q r1 r2 M2)) := by
  obtain ⟨g, hr, ov, i, t, stp, rs, hI, hM, hD⟩ := id h
  obtain ⟨⟨hW, hp, hL, hRg⟩, ⟨h19, hmis⟩, ⟨hpa, hst⟩, ⟨hhr, hov⟩, hrb, hri, hout⟩ := id hI
  refine CE_of rfl (b_D_machine_0 _ _ _ _ _ (c_D_isWithin ⟨fun c1 => ⟨z01_0, ?_⟩, fun c1 => c_D_isWithin ⟨fun c2 => ⟨z01_0, ?_⟩, fun c2 => c_D_isWithin ⟨fun c3 => ⟨z01_0, ?_⟩, fun c3 => c_D_isWithin ⟨fun c4 => ⟨z01_0, ?_⟩, fun c4 => c_D_isWithin ⟨fun c5 => ?_, fun c5 => ⟨z01_0, ?_⟩⟩⟩⟩⟩⟩))
  · exact CE_of rfl (b_M_machine_0 _ _ _ _ _ (c_M_lies ⟨fun _ => ⟨z01_0, k _ M rfl h⟩, fun z => absurd c1 z⟩))
  · exact CE_of rfl (b_M_machine_0 _ _ _ _ _ (c_M_lies ⟨fun z => absurd z c1, fun _ => c_M_lies ⟨fun _ => ⟨z01_0, k _ M rfl h⟩, fun z => absurd c2 z⟩⟩))
  · exact CE_of rfl (b_M_machine_0 _ _ _ _ _ (c_M_lies ⟨fun z => absurd z c1, fun _ => c_M_lies ⟨fun z => absurd z c2, fun _ => c_M_lies ⟨fun _ => ⟨z01_0, k _ M rfl h⟩, fun z => absurd c3 z⟩⟩⟩))
  · exact CE_of rfl (b_M_machine_0 _ _ _ _ _ (c_M_lies ⟨fun z => absurd z c1, fun _ => c_M_lies ⟨fun z => absurd z c2, fun _ => c_M_lies ⟨fun z => absurd z c3, fun _ => c_M_lies ⟨fun _ => ⟨z01_0, k _ M rfl h⟩, fun z => absurd c4 z⟩⟩⟩⟩))
  · obtain ⟨a, a1, a2, ea⟩ := rng1 (m := 4) (by omega) (b2_nz.mp c1)
    obtain ⟨b, b1, b2', eb⟩ := rng1 (m := 20) (by omega) (b2_nz.mp c2)
    obtain ⟨c, c1', c2', ec⟩ := rng1 (m := 20) (by omega) (b2_nz.mp c3)
    obtain ⟨e, e1, ee⟩ := within_rng (m := 20) (by omega) (b2_nz.mp c4)
    obtain ⟨f, f1, ef⟩ := within_rng (m := 50) (by omega) (b2_nz.mp c5)
    refine c_D_dropPlan (fun M1 f0 f26 f2 f3 f4 => ⟨z01_1, ?_⟩)
    refine CE_of rfl (b_M_machine_0 _ _ _ _ _ (c_M_lies ⟨fun z => absurd z c1, fun _ => c_M_lies ⟨fun z => absurd z c2, fun _ => c_M_lies ⟨fun z => absurd z c3, fun _ => c_M_lies ⟨fun z => absurd z c4, fun _ => c_M_lies ⟨fun _ => ⟨z01_0, z01_0, z01_1, ?_⟩, fun z => absurd z c5⟩⟩⟩⟩⟩))
    have g0 : ∀ k1, k1 ≠ 14 → k1 ≠ 15 → k1 ≠ 26 → M1 k1 = M k1 := fun k1 x y z => by
      rw [f0 k1 y z, mset_ne _ _ _ x, mset_ne _ _ _ x, mset_ne _ _ _ x, mset_ne _ _ _ x, mset_ne _ _ _ x]
    have g14 : ∀ j, M1 14 j = mset (mset (mset (mset (mset M 14 0 X1) 14 1 X2) 14 2 X3) 14 3 X4) 14 4 X5 14 j := fun j => by rw [f0 14 (by omega) (by omega)]
    have g26 : ∀ j, j ≠ 7 → M1 26 j = M 26 j := fun j hj => by
      rw [f26 j hj, mset_ne _ _ _ (by omega), mset_ne _ _ _ (by omega), mset_ne _ _ _ (by omega), mset_ne _ _ _ (by omega), mset_ne _ _ _ (by omega)]
    have hM1 : RelM g hr ov i t stp rs M1 := hM.fr (fun k1 a b _ _ _ _ _ => g0 k1 (by omega) (by omega) (by omega))
    obtain ⟨hC, hX, h48, hs, hMr, hK⟩ := hM1
    subst ea eb ec ee ef
    have hR2 : RC (g31 (gM g a b c e f) 16 0) (mset (mset (mset (mset (mset (mset (mset (mset M1 31 11 (nI a)) 31 12 (nI b)) 31 13 (nI c)) 31 14 (nI e)) 31 15 (nI f)) 31 28 0) 31 16 0) 31 30 0) := (((((((hC.j31 11 a (by omega)).j31 12 b (by omega)).j31 13 c (by omega)).j31 14 e (by omega)).j31 15 f (by omega)).o31 28 0 (by omega) (by omega)).j31 16 0 (by omega)).o31 30 0 (by omega) (by omega)
    have ne : ∀ k1, k1 ≠ 31 → mset (mset (mset (mset (mset (mset (mset (mset M1 31 11 (nI a)) 31 12 (nI b)) 31 13 (nI c)) 31 14 (nI e)) 31 15 (nI f)) 31 28 0) 31 16 0) 31 30 0 k1 = M1 k1 := fun k1 x => by
      rw [mset_ne _ _ _ x, mset_ne _ _ _ x, mset_ne _ _ _ x, mset_ne _ _ _ x, mset_ne _ _ _ x, mset_ne _ _ _ x, mset_ne _ _ _ x, mset_ne _ _ _ x]
    have n31 : ∀ j, (j < 11 ∨ 16 < j) → j ≠ 28 → j ≠ 30 → mset (mset (mset (mset (mset (mset (mset (mset M1 31 11 (nI a)) 31 12 (nI b)) 31 13 (nI c)) 31 14 (nI e)) 31 15 (nI f)) 31 28 0) 31 16 0) 31 30 0 31 j = M1 31 j := fun j x y z => by
      simp only [mset_eq, upd]
      rw [if_neg z, if_neg (by omega), if_neg y, if_neg (by omega), if_neg (by omega), if_neg (by omega), if_neg (by omega), if_neg (by omega)]
    have f28 : mset (mset (mset (mset (mset (mset (mset (mset M1 31 11 (nI a)) 31 12 (nI b)) 31 13 (nI c)) 31 14 (nI e)) 31 15 (nI f)) 31 28 0) 31 16 0) 31 30 0 31 28 = 0 := by
      simp only [mset_eq, upd]
      rfl
    have f30 : mset (mset (mset (mset (mset (mset (mset (mset M1 31 11 (nI a)) 31 12 (nI b)) 31 13 (nI c)) 31 14 (nI e)) 31 15 (nI f)) 31 28 0) 31 16 0) 31 30 0 31 30 = 0 := by
      rw [mset_eq]
      exact if_pos rfl
    generalize mset (mset (mset (mset (mset (mset (mset (mset M1 31 11 (nI a)) 31 12 (nI b)) 31 13 (nI c)) 31 14 (nI e)) 31 15 (nI f)) 31 28 0) 31 16 0) 31 30 0 = M2 at *
    have hW2 : Wk (gM g a b c e f) := by
      obtain ⟨w1, w2, w3, w4, w5, w6, w7, w8, w9⟩ := hW
      exact ⟨w1, w2, w3, w4, w5, w6, ⟨a1, a2⟩, ⟨b2', c2', e1, f1⟩, w9⟩
    refine k _ M2 (by rw [ne 1000 (by omega)]; exact g0 1000 (by omega) (by omega) (by omega)) ?_
    refine RX.mk0 (g := g31 (gM g a b c e f) 16 0) (ov := ov) (i := i) (t := t) (st := rs.1) ⟨hW2.clr, hp.clr, hL, hRg⟩ ⟨h19, hmis⟩ hst hout (fun p => ?_) hov hR2 ⟨fun n => ?_, ?_⟩ f30 ?_ ?_ ?_ (Or.inl f28) ?_ ⟨fun n hnn => ?_, ?_⟩ ?_
    · rw [ne 48 (by omega)]; exact h48 p
    · rw [ne 43 (by omega)]; exact hX.1 n
    · rw [n31 19 (by omega) (by omega) (by omega)]; exact hX.2
    · rw [n31 31 (by omega) (by omega) (by omega)]; exact hs.2.1
    · rw [n31 32 (by omega) (by omega) (by omega)]; exact hs.2.2.1
    · rw [n31 35 (by omega) (by omega) (by omega)]; exact hs.2.2.2
    · have hD2 : DC (gM g a b c e f) (mset (mset (mset (mset (mset M 14 0 (nI a)) 14 1 (nI b)) 14 2 (nI c)) 14 3 (nI e)) 14 4 (nI f)) := by
        obtain ⟨hK, hP, hS, hG, hR⟩ := hD.1
        have mm : ∀ k1, k1 ≠ 14 → mset (mset (mset (mset (mset M 14 0 (nI a)) 14 1 (nI b)) 14 2 (nI c)) 14 3 (nI e)) 14 4 (nI f) k1 = M k1 := fun k1 x => by rw [mset_ne _ _ _ x, mset_ne _ _ _ x, mset_ne _ _ _ x, mset_ne _ _ _ x, mset_ne _ _ _ x]
        refine ⟨?_, ?_, ?_, ?_, ?_⟩
        · unfold DK at *
          simp only [mm 2 (by omega), mm 3 (by omega), mm 4 (by omega), mm 5 (by omega)]
          exact hK
        · unfold DP at *
          simp only [mm 1 (by omega), mm 6 (by omega), mm 7 (by omega), mm 8 (by omega), mm 9 (by omega), mm 10 (by omega)]
          exact hP
        · unfold DS at *
          rw [mm 12 (by omega), mm 13 (by omega)]
          exact hS
        · unfold DG
          simp only [mset_eq, upd]
          exact ⟨rfl, rfl, rfl, rfl, rfl⟩
        · unfold DR at *
          rw [mm 15 (by omega), mm 16 (by omega)]
          exact hR
      exact hD2.clr (fun k1 a b => by rw [ne k1 (by omega)]; exact f0 k1 (by omega) (by omega)) (by rw [ne 15 (by omega)]; exact f3) (by rw [ne 15 (by omega)]; exact f4)
    · rw [ne 28 (by omega), g0 28 (by omega) (by omega) (by omega)]; exact hD.2.1.1 n hnn
    · rw [ne 26 (by omega), g26 6 (by omega)]; exact hD.2.1.2
    · rw [ne 26 (by omega)]; exact f2
  · exact CE_of rfl (b_M_machine_0 _ _ _ _ _ (c_M_lies ⟨fun z => absurd z c1, fun _ => c_M_lies ⟨fun z => absurd z c2, fun _ => c_M_lies ⟨fun z => absurd z c3, fun _ => c_M_lies ⟨fun z => absurd z c4, fun _ => c_M_lies ⟨fun z => absurd c5 z, fun _ => ⟨z01_0, k _ M rfl h⟩⟩⟩⟩⟩⟩))
theorem gK_ah {g : GS} {k a b c z p q : Nat} (hp : g 38 p ≠ k) (hq : g 38 q ≠ k) : ahB (gK g k a b c z) p q = ahB g p q := by
  have e1 : (gK g k a b c z) 32 = fs (g 32) k a := rfl
  have e2 : (gK g k a b c z) 33 = fs (g 33) k b := rfl
  have e3 : (gK g k a b c z) 36 = g 36 := rfl
  have e4 : (gK g k a b c z) 37 = g 37 := rfl
  have e5 : (gK g k a b c z) 38 = g 38 := rfl
  have e6 : (gK g k a b c z) 39 = g 39 := rfl
  unfold ahB
  rw [e1, e2, e3, e4, e5, e6, fs_ne _ _ hp, fs_ne _ _ hq, fs_ne _ _ hp, fs_ne _ _ hq]
theorem op_kind {X1 X2 X3 X4 X5 : Int32} (hz : Z01 X5) (h : RX M) (kk : ∀ r M', M' 1000 = M 1000 → RX M' → Q r r M') : CE E (d + 1) n_D_kind [.inr 0, .inl X1, .inl X2, .inl X3, .inl X4, .inl X5] M (fun r1 M1 => CE E (d + 1) n_M_kind [.inr 31, .inl X1, .inl X2, .inl X3, .inl X4, .inl X5] M1 (fun r2 M2 => Q r1 r2 M2)) := by
  obtain ⟨g, hr, ov, i, t, stp, rs, hI, hM, hD⟩ := id h
  obtain ⟨⟨hW, hp, hL, hRg⟩, ⟨h19, hmis⟩, ⟨hpa, hst⟩, ⟨hhr, hov⟩, hrb, hri, hout⟩ := id hI
  have hp10 := hW.1
  obtain ⟨z, hz1, ez⟩ : ∃ z, z ≤ 1 ∧ X5 = nI z := by
    rcases hz with q | q
    · exact ⟨0, by omega, q⟩
    · exact ⟨1, by omega, q⟩
  -- the reference's search
  have L45 : ∀ (M1 : Mem) (k : Nat), RC g M1 → k < 8 → X1 = nI k → ∀ (n p : Nat), p + n = pls g → ∀ (P : Int32 → Mem → Prop), (fst (fun p => g 38 p == k) n p < pls g → P 0 M1) → (¬ fst (fun p => g 38 p == k) n p < pls g → P 1 (mset (mset (mset (mset M1 32 k X2) 33 k X3) 34 k X4) 35 k X5)) → JE E (d + 1) n_M_kind 45 [some (.inr 31), some (.inl X1), some (.inl X2), some (.inl X3), some (.inl X4), some (.inl X5), some (.inl (nI p))] [] M1 P := by
    intro M1 k hC hk8 ek n
    have h4 : M1 31 4 = nI (pls g) := hC.2.2.1
    have v : vp_in X1 8 := by rw [ek]; exact vp_in_nI hk8 (by omega)
    have ei : Int32.toNatClampNeg X1 = k := by rw [ek]; exact nI_clamp (by omega)
    induction n with
    | zero =>
      intro p hpn P k0 k1
      refine b_M_kind_45 _ _ _ _ _ _ ⟨fun _ => ⟨v, v, v, v, hz, z01_1, ?_⟩, fun c1 => absurd (by rw [h4]; exact nI_le (by omega) (by omega)) c1⟩
      rw [ei]
      exact k1 (by unfold fst; omega)
    | succ n ih =>
      intro p hpn P k0 k1
      have hk38 := (hW.2.2.1 p (by omega)).2.2
      have m38 : M1 38 p = nI (g 38 p) := hC.at 38 (by omega) (by omega) (by omega) p
      rw [fst] at k0 k1
      refine b_M_kind_45 _ _ _ _ _ _ ⟨fun c1 => absurd c1 (by rw [h4]; exact nI_ge (by omega) (by omega)), fun _ => ⟨vp_in_nI (by omega) (by omega), ?_⟩⟩
      rw [nI_clamp (by omega), m38, nI_1]
      refine ⟨fun c2 => ?_, fun c2 => ⟨z01_0, ?_⟩⟩
      · rw [ek, nI_eq (by omega) (by omega)] at c2
        rw [if_neg (by simpa using c2)] at k0 k1
        exact ih (p + 1) (by omega) P k0 k1
      · rw [ek, nI_eq (by omega) (by omega)] at c2
        rw [if_pos (by simpa using c2)] at k0
        exact k0 (by omega)
  refine CE_of rfl (b_D_kind_0 _ _ _ _ _ (c_D_isWithin ⟨fun c1 => ⟨z01_0, ?_⟩, fun c1 => c_D_isWithin ⟨fun c2 => ⟨z01_0, ?_⟩, fun c2 => c_D_isWithin ⟨fun c3 => ⟨z01_0, ?_⟩, fun c3 => c_D_isWithin ⟨fun c4 => ⟨z01_0, ?_⟩, fun c4 => ?_⟩⟩⟩⟩))
  · exact CE_of rfl (b_M_kind_0 _ _ _ _ _ (c_M_lies ⟨fun _ => ⟨z01_0, kk _ M rfl h⟩, fun z => absurd c1 z⟩))
  · exact CE_of rfl (b_M_kind_0 _ _ _ _ _ (c_M_lies ⟨fun z => absurd z c1, fun _ => c_M_lies ⟨fun _ => ⟨z01_0, kk _ M rfl h⟩, fun z => absurd c2 z⟩⟩))
  · exact CE_of rfl (b_M_kind_0 _ _ _ _ _ (c_M_lies ⟨fun z => absurd z c1, fun _ => c_M_lies ⟨fun z => absurd z c2, fun _ => c_M_lies ⟨fun _ => ⟨z01_0, kk _ M rfl h⟩, fun z => absurd c3 z⟩⟩⟩))
  · exact CE_of rfl (b_M_kind_0 _ _ _ _ _ (c_M_lies ⟨fun z => absurd z c1, fun _ => c_M_lies ⟨fun z => absurd z c2, fun _ => c_M_lies ⟨fun z => absurd z c3, fun _ => c_M_lies ⟨fun z => absurd c4 z, fun _ => ⟨z01_0, kk _ M rfl h⟩⟩⟩⟩⟩))
  · obtain ⟨k, k1', ek⟩ := within_rng (m := 7) (by omega) (b2_nz.mp c1)
    obtain ⟨a, a1, a2, ea⟩ := rng1 (m := 20) (by omega) (b2_nz.mp c2)
    obtain ⟨b, b1, b2', eb⟩ := rng1 (m := 9) (by omega) (b2_nz.mp c3)
    obtain ⟨c, cc1, ec⟩ := within_rng (m := 2) (by omega) (b2_nz.mp c4)
    have v : vp_in X1 8 := by rw [ek]; exact vp_in_nI (by omega) (by omega)
    have ei : Int32.toNatClampNeg X1 = k := by rw [ek]; exact nI_clamp (by omega)
    have md : ∀ (M1 : Mem) (P : Int32 → Mem → Prop), JE E (d + 1) n_M_kind 45 [some (.inr 31), some (.inl X1), some (.inl X2), some (.inl X3), some (.inl X4), some (.inl X5), some (.inl (nI 0))] [] M1 P → CE E (d + 1) n_M_kind [.inr 31, .inl X1, .inl X2, .inl X3, .inl X4, .inl X5] M1 P := fun M1 P hj => CE_of rfl (b_M_kind_0 _ _ _ _ _ (c_M_lies ⟨fun z => absurd z c1, fun _ => c_M_lies ⟨fun z => absurd z c2, fun _ => c_M_lies ⟨fun z => absurd z c3, fun _ => c_M_lies ⟨fun _ => hj, fun z => absurd z c4⟩⟩⟩⟩))
    have hBp : CE E d n_B_hasPlaceOf [.inr 1, .inl X1] M (fun r5 M5 => (r5 = 0 → vp_in X1 8 ∧ vp_in X1 8 ∧ vp_in X1 8 ∧ vp_in X1 8 ∧ Z01 X5 ∧ Z01 1 ∧ CE E (d + 1) n_M_kind [.inr 31, .inl X1, .inl X2, .inl X3, .inl X4, .inl X5] (mset (mset (mset (mset M5 2 (Int32.toNatClampNeg X1) X2) 3 (Int32.toNatClampNeg X1) X3) 4 (Int32.toNatClampNeg X1) X4) 5 (Int32.toNatClampNeg X1) X5) (fun r2 M2 => Q 1 r2 M2)) ∧ (¬ r5 = 0 → Z01 0 ∧ CE E (d + 1) n_M_kind [.inr 31, .inl X1, .inl X2, .inl X3, .inl X4, .inl X5] M5 (fun r2 M2 => Q 0 r2 M2))) := by
      rw [ek]
      refine c_B_hasPlaceOf (f := g 38) (n := pls g) (by omega) hp10 hD.1.2.1.1 (fun p hpp => ⟨by have := (hW.2.2.1 p (by omega)).2.2; omega, (hD.1.2.1.2.1 p hpp).2.2.1⟩) ?_
      rw [← ek]
      refine ⟨fun c5 => ⟨v, v, v, v, hz, z01_1, ?_⟩, fun c5 => ⟨z01_0, ?_⟩⟩
      · rw [b2_z] at c5
        have c5 := of_decide_eq_false c5
        rw [ei]
        have hno : ∀ p, p < pls g → g 38 p ≠ k := by
          intro p hpp e
          have := fst_no (fun p => g 38 p == k) (pls g) 0 p (by omega) (by omega)
          simp [e] at this
        have hM1 : RelM g hr ov i t stp rs (mset (mset (mset (mset M 2 k X2) 3 k X3) 4 k X4) 5 k X5) := hM.fr (fun k1 a b _ _ _ _ _ => by rw [mset_ne _ _ _ (by omega), mset_ne _ _ _ (by omega), mset_ne _ _ _ (by omega), mset_ne _ _ _ (by omega)])
        refine md _ _ (L45 _ k hM1.1 (by omega) ek (pls g) 0 (by omega) _ (fun z => absurd z c5) (fun _ => ?_))
        have nd : ∀ k1, k1 ≠ 2 → k1 ≠ 3 → k1 ≠ 4 → k1 ≠ 5 → mset (mset (mset (mset M 2 k X2) 3 k X3) 4 k X4) 5 k X5 k1 = M k1 := fun k1 x1 x2 x3 x4 => by rw [mset_ne _ _ _ x4, mset_ne _ _ _ x3, mset_ne _ _ _ x2, mset_ne _ _ _ x1]
        have d2 : mset (mset (mset (mset M 2 k X2) 3 k X3) 4 k X4) 5 k X5 2 = upd (M 2) k X2 := by rw [mset_ne _ _ _ (by omega), mset_ne _ _ _ (by omega), mset_ne _ _ _ (by omega), mset_eq]
        have d3 : mset (mset (mset (mset M 2 k X2) 3 k X3) 4 k X4) 5 k X5 3 = upd (M 3) k X3 := by rw [mset_ne _ _ _ (by omega), mset_ne _ _ _ (by omega), mset_eq, mset_ne _ _ _ (by omega)]
        have d4 : mset (mset (mset (mset M 2 k X2) 3 k X3) 4 k X4) 5 k X5 4 = upd (M 4) k X4 := by rw [mset_ne _ _ _ (by omega), mset_eq, mset_ne _ _ _ (by omega), mset_ne _ _ _ (by omega)]
        have d5 : mset (mset (mset (mset M 2 k X2) 3 k X3) 4 k X4) 5 k X5 5 = upd (M 5) k X5 := by rw [mset_eq, mset_ne _ _ _ (by omega), mset_ne _ _ _ (by omega), mset_ne _ _ _ (by omega)]
        generalize mset (mset (mset (mset M 2 k X2) 3 k X3) 4 k X4) 5 k X5 = M1 at *
        obtain ⟨hC, hX, h48, hs, hMr, hK⟩ := hM1
        have nm : ∀ k1, k1 ≠ 32 → k1 ≠ 33 → k1 ≠ 34 → k1 ≠ 35 → mset (mset (mset (mset M1 32 k X2) 33 k X3) 34 k X4) 35 k X5 k1 = M1 k1 := fun k1 x1 x2 x3 x4 => by rw [mset_ne _ _ _ x4, mset_ne _ _ _ x3, mset_ne _ _ _ x2, mset_ne _ _ _ x1]
        have m2 : mset (mset (mset (mset M1 32 k X2) 33 k X3) 34 k X4) 35 k X5 32 = upd (M1 32) k X2 := by rw [mset_ne _ _ _ (by omega), mset_ne _ _ _ (by omega), mset_ne _ _ _ (by omega), mset_eq]
        have m3 : mset (mset (mset (mset M1 32 k X2) 33 k X3) 34 k X4) 35 k X5 33 = upd (M1 33) k X3 := by rw [mset_ne _ _ _ (by omega), mset_ne _ _ _ (by omega), mset_eq, mset_ne _ _ _ (by omega)]
        have m4 : mset (mset (mset (mset M1 32 k X2) 33 k X3) 34 k X4) 35 k X5 34 = upd (M1 34) k X4 := by rw [mset_ne _ _ _ (by omega), mset_eq, mset_ne _ _ _ (by omega), mset_ne _ _ _ (by omega)]
        have m5 : mset (mset (mset (mset M1 32 k X2) 33 k X3) 34 k X4) 35 k X5 35 = upd (M1 35) k X5 := by rw [mset_eq, mset_ne _ _ _ (by omega), mset_ne _ _ _ (by omega), mset_ne _ _ _ (by omega)]
        generalize mset (mset (mset (mset M1 32 k X2) 33 k X3) 34 k X4) 35 k X5 = M2 at *
        subst ea eb ec ez
        have n31 : M2 31 = M1 31 := nm 31 (by omega) (by omega) (by omega) (by omega)
        have hah : ∀ p q, p < pls g → q < pls g → ahB (gK g k a b c z) p q = ahB g p q := fun p q h1 h2 => gK_ah (hno p h1) (hno q h2)
        have hv : VE g (gK g k a b c z) := ⟨rfl, fun _ _ _ => rfl, fun p hpp => ⟨rfl, rfl, fs_ne _ _ (hno p hpp), fs_ne _ _ (hno p hpp), rfl⟩, hah⟩
        have hW2 : Wk (gK g k a b c z) := by
          obtain ⟨w1, w2, w3, w4, w5, w6, w7, w8, w9⟩ := hW
          refine ⟨w1, w2, w3, fun j hj => ?_, w5, w6, w7, w8, w9⟩
          have := w4 j hj
          show fs (g 32) k a j ≤ 20 ∧ fs (g 33) k b j ≤ 9 ∧ fs (g 34) k c j ≤ 2 ∧ fs (g 35) k z j ≤ 1
          unfold fs
          split
          · exact ⟨a2, b2', cc1, hz1⟩
          · exact this
        refine kk _ M2 (by rw [nm 1000 (by omega) (by omega) (by omega) (by omega), nd 1000 (by omega) (by omega) (by omega) (by omega)]) ⟨gK g k a b c z, hr, ov, i, t, stp, rs, ⟨⟨hW2, hp, hL, fun q => hRg ((Rg_cong (fun x y hx hy => hah x y hx hy)).mp q)⟩, ⟨h19, hmis⟩, ⟨hpa, hst⟩, ⟨hhr, hov⟩, hrb, hri, hout⟩, ⟨⟨fun k1 x1 x2 x3 j => ?_, fun j => ?_, ?_, fun j x1 x2 => ?_⟩, ⟨fun m => ?_, ?_⟩, fun p => ?_, ?_, fun q => ?_, ?_⟩, ?_⟩
        · by_cases h32 : k1 = 32
          · subst h32; rw [m2]; exact upd_fs (hC.1 32 (by omega) (by omega) (by omega)) j
          · by_cases h33 : k1 = 33
            · subst h33; rw [m3]; exact upd_fs (hC.1 33 (by omega) (by omega) (by omega)) j
            · by_cases h34 : k1 = 34
              · subst h34; rw [m4]; exact upd_fs (hC.1 34 (by omega) (by omega) (by omega)) j
              · by_cases h35 : k1 = 35
                · subst h35; rw [m5]; exact upd_fs (hC.1 35 (by omega) (by omega) (by omega)) j
                · rw [nm k1 h32 h33 h34 h35, hC.1 k1 x1 x2 x3 j]
                  have : gK g k a b c z k1 = g k1 := by
                    unfold gK sG
                    rw [if_neg h35, if_neg h34, if_neg h33, if_neg h32]
                  rw [this]
        · rw [nm 40 (by omega) (by omega) (by omega) (by omega)]; exact hC.2.1 j
        · rw [n31]; exact hC.2.2.1
        · rw [n31]; exact hC.2.2.2 j x1 x2
        · rw [nm 43 (by omega) (by omega) (by omega) (by omega)]; exact hX.1 m
        · rw [n31]; exact hX.2
        · rw [nm 48 (by omega) (by omega) (by omega) (by omega)]; exact h48 p
        · rw [n31]; exact hs
        · unfold HM
          rw [n31]; exact hMr q
        · exact hK.view hv (by rw [n31]) (by rw [n31]) (nm 47 (by omega) (by omega) (by omega) (by omega))
        · obtain ⟨⟨hK, ⟨hP1, hP2, hP3⟩, hS, hG, hR⟩, hrest⟩ := hD
          have hDK : RelD (gK g k a b c z) hr ov i t stp rs M1 := by
            refine ⟨⟨fun j hj => ?_, ⟨?_, fun p hpp => ?_, fun p hpp => ?_⟩, ?_, ?_, ?_⟩, ?_⟩
            · obtain ⟨q1, q2, q3, q4⟩ := hK j hj
              rw [d2, d3, d4, d5]
              show upd (M 2) k (nI a) j = nI (fs (g 32) k a j) ∧ upd (M 3) k (nI b) j = nI (fs (g 33) k b j) ∧ upd (M 4) k (nI c) j = nI (fs (g 34) k c j) ∧ upd (M 5) k (nI z) j = nI (fs (g 35) k z j)
              unfold upd fs
              split
              · exact ⟨rfl, rfl, rfl, rfl⟩
              · exact ⟨q1, q2, q3, q4⟩
            · rw [nd 1 (by omega) (by omega) (by omega) (by omega)]; exact hP1
            · have hpp : p < pls g := hpp
              obtain ⟨q1, q2, q3, q4, q5⟩ := hP2 p hpp
              rw [nd 6 (by omega) (by omega) (by omega) (by omega), nd 7 (by omega) (by omega) (by omega) (by omega), nd 8 (by omega) (by omega) (by omega) (by omega), nd 9 (by omega) (by omega) (by omega) (by omega), nd 10 (by omega) (by omega) (by omega) (by omega)]
              refine ⟨q1, q2, q3, ?_, q5⟩
              rw [q4]
              congr 1
              exact bitsOf_all (fun x hx => (hah x p hx hpp).symm)
            · rw [nd 10 (by omega) (by omega) (by omega) (by omega)]; exact hP3 p hpp
            · unfold DS at *
              rw [nd 12 (by omega) (by omega) (by omega) (by omega), nd 13 (by omega) (by omega) (by omega) (by omega)]; exact hS
            · unfold DG at *
              rw [nd 14 (by omega) (by omega) (by omega) (by omega)]; exact hG
            · unfold DR at *
              rw [nd 15 (by omega) (by omega) (by omega) (by omega), nd 16 (by omega) (by omega) (by omega) (by omega)]; exact hR
            · unfold DX DTr HD at *
              rw [nd 26 (by omega) (by omega) (by omega) (by omega), nd 27 (by omega) (by omega) (by omega) (by omega), nd 28 (by omega) (by omega) (by omega) (by omega)]
              exact hrest
          exact hDK.fr (fun k1 x1 x2 x3 => nm k1 (by omega) (by omega) (by omega) (by omega))
      · rw [b2_nz] at c5
        have c5 := of_decide_eq_true c5
        exact md _ _ (L45 _ k hM.1 (by omega) ek (pls g) 0 (by omega) _ (fun _ => kk _ M rfl h) (fun z => absurd c5 z))
    exact hBp
end OT
