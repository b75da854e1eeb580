/-! Operations: feeder. -/
theorem m1_le {X : Int32} (h : (-1 : Int32) ≤ X) (h2 : X ≠ -1) : 0 ≤ X := by
  rw [Int32.le_iff_toInt_le] at *
  have h3 : X.toInt ≠ (-1 : Int32).toInt := fun e => h2 (Int32.toInt_inj.mp e)
  have e1 : (-1 : Int32).toInt = -1 := by decide
  have e0 : (0 : Int32).toInt = 0 := by decide
  omega
section OV
variable {E : Env0} {d : Nat} {M : Mem} {Q : Int32 → Int32 → Mem → Prop}
theorem RX.feed (h : RX M) {s k n : Nat} {X Y : Int32} {v : Bool} (hs : s < 8) (hk : k ≤ 8) (hn : n ≤ 100) (ex : X = nI k - 1) (ey : Y = nI n) (hv : v = true → ¬ M 31 28 = 0 ∧ M 40 s = X) : RX (mset (mset (mset (mset (mset M 12 s X) 13 s Y) 31 28 (b2 v)) 40 s X) 41 s Y) := by
  obtain ⟨g, hr, ov, i, t, stp, rs, hI, hM, hD⟩ := h
  obtain ⟨⟨hW, hp, hL, hRg⟩, ⟨h19, hmis⟩, ⟨hpa, hst⟩, ⟨hhr, hov⟩, hrb, hri, hout⟩ := hI
  obtain ⟨hC, hX, h48, hs', hMr, hK⟩ := hM
  have ne : ∀ k1, k1 ≠ 12 → k1 ≠ 13 → k1 ≠ 31 → k1 ≠ 40 → k1 ≠ 41 → mset (mset (mset (mset (mset M 12 s X) 13 s Y) 31 28 (b2 v)) 40 s X) 41 s Y k1 = M k1 := fun k1 x1 x2 x3 x4 x5 => by rw [mset_ne _ _ _ x5, mset_ne _ _ _ x4, mset_ne _ _ _ x3, mset_ne _ _ _ x2, mset_ne _ _ _ x1]
  have m12 : mset (mset (mset (mset (mset M 12 s X) 13 s Y) 31 28 (b2 v)) 40 s X) 41 s Y 12 = upd (M 12) s X := by rw [mset_ne _ _ _ (by omega), mset_ne _ _ _ (by omega), mset_ne _ _ _ (by omega), mset_ne _ _ _ (by omega), mset_eq]
  have m13 : mset (mset (mset (mset (mset M 12 s X) 13 s Y) 31 28 (b2 v)) 40 s X) 41 s Y 13 = upd (M 13) s Y := by rw [mset_ne _ _ _ (by omega), mset_ne _ _ _ (by omega), mset_ne _ _ _ (by omega), mset_eq, mset_ne _ _ _ (by omega)]
  have m40 : mset (mset (mset (mset (mset M 12 s X) 13 s Y) 31 28 (b2 v)) 40 s X) 41 s Y 40 = upd (M 40) s X := by rw [mset_ne _ _ _ (by omega), mset_eq, mset_ne _ _ _ (by omega), mset_ne _ _ _ (by omega), mset_ne _ _ _ (by omega)]
  have m41 : mset (mset (mset (mset (mset M 12 s X) 13 s Y) 31 28 (b2 v)) 40 s X) 41 s Y 41 = upd (M 41) s Y := by rw [mset_eq, mset_ne _ _ _ (by omega), mset_ne _ _ _ (by omega), mset_ne _ _ _ (by omega), mset_ne _ _ _ (by omega)]
  have m31 : mset (mset (mset (mset (mset M 12 s X) 13 s Y) 31 28 (b2 v)) 40 s X) 41 s Y 31 = upd (M 31) 28 (b2 v) := by rw [mset_ne _ _ _ (by omega), mset_ne _ _ _ (by omega), mset_eq, mset_ne _ _ _ (by omega), mset_ne _ _ _ (by omega)]
  generalize mset (mset (mset (mset (mset M 12 s X) 13 s Y) 31 28 (b2 v)) 40 s X) 41 s Y = M2 at *
  subst ex ey
  have n31 : ∀ j, j ≠ 28 → M2 31 j = M 31 j := fun j hj => by rw [m31]; exact if_neg hj
  have c40 : ∀ j, (nI (fs (g 40) s k j) : Int32) - 1 = if j = s then nI k - 1 else nI (g 40 j) - 1 := by
    intro j
    unfold fs
    split <;> rfl
  have hpb : ∀ j, j < 8 → fs (g 41) s n j ≤ 100 := by
    intro j hj
    unfold fs
    split
    · exact hn
    · exact (hW.2.2.2.2.2.1 j hj).2
  have hW2 : Wk (gF g s k n) := by
    obtain ⟨w1, w2, w3, w4, w5, w6, w7, w8, w9⟩ := hW
    refine ⟨w1, w2, w3, w4, w5, fun j hj => ⟨?_, hpb j hj⟩, w7, w8, w9⟩
    show fs (g 40) s k j ≤ 8
    unfold fs
    split
    · exact hk
    · exact (w6 j hj).1
  have hb2 : hr ≠ 0 → rsB ((rs.1, fs (g 41) s n, rs.2.2) : RS) := fun z => ⟨(hrb z).1, hpb, (hrb z).2.2⟩
  refine ⟨gF g s k n, hr, ov, i, t, stp, (rs.1, fs (g 41) s n, rs.2.2), ⟨⟨hW2, hp, hL, hRg⟩, ⟨h19, hmis⟩, ⟨rfl, hst⟩, ⟨hhr, hov⟩, hb2, fun z z2 => ⟨hb2 z, (hri z z2).2⟩, hout⟩, ⟨⟨fun k1 x1 x2 x3 j => ?_, fun j => ?_, ?_, fun j x1 x2 => ?_⟩, ⟨fun m => ?_, ?_⟩, fun p => ?_, ?_, fun q => ?_, ?_⟩, ?_⟩
  · by_cases h41 : k1 = 41
    · subst h41
      rw [m41]
      exact upd_fs (hC.1 41 (by omega) (by omega) (by omega)) j
    · rw [ne k1 (by omega) (by omega) (by omega) x3 h41, hC.1 k1 x1 x2 x3 j]
      have : gF g s k n k1 = g k1 := by
        unfold gF sG
        rw [if_neg h41, if_neg x3]
      rw [this]
  · rw [m40]
    show upd (M 40) s (nI k - 1) j = nI (fs (g 40) s k j) - 1
    rw [c40 j]
    unfold upd
    split
    · rfl
    · exact hC.2.1 j
  · rw [n31 4 (by omega)]; exact hC.2.2.1
  · rw [n31 j (by omega)]; exact hC.2.2.2 j x1 x2
  · rw [ne 43 (by omega) (by omega) (by omega) (by omega) (by omega)]; exact hX.1 m
  · rw [n31 19 (by omega)]; exact hX.2
  · rw [ne 48 (by omega) (by omega) (by omega) (by omega) (by omega)]; exact h48 p
  · rw [n31 30 (by omega), n31 31 (by omega), n31 32 (by omega), n31 35 (by omega)]; exact hs'
  · have hq := hMr q
    unfold HM at *
    rw [n31 21 (by omega), n31 22 (by omega), n31 23 (by omega), n31 24 (by omega), n31 33 (by omega), n31 34 (by omega), n31 36 (by omega)]
    exact hq
  · cases v with
    | false => exact Or.inl (by rw [m31]; exact if_pos rfl)
    | true =>
      obtain ⟨v1, v2⟩ := hv rfl
      have e28 : M2 31 28 = M 31 28 := by
        rw [m31]
        rcases hK with q | q
        · exact absurd q v1
        · rw [q.1]; exact if_pos rfl
      have h40 := (hW.2.2.2.2.2.1 s hs).1
      have ek : g 40 s = k := by
        rw [hC.2.1 s] at v2
        have := congrArg (fun x => x + 1) v2
        simp only [Int32.sub_add_cancel] at this
        exact (nI_eq (by omega) (by omega)).mp this
      have eg : (gF g s k n) 40 = g 40 := by
        funext j
        show fs (g 40) s k j = g 40 j
        unfold fs
        split
        · next e => rw [e, ek]
        · rfl
      have hve : VE g (gF g s k n) := by
        refine ⟨rfl, fun _ _ _ => rfl, fun p _ => ⟨rfl, rfl, rfl, rfl, ?_⟩, fun _ _ _ _ => rfl⟩
        show slO (gF g s k n) (g 38 p) = slO g (g 38 p)
        unfold slO
        rw [eg]
      exact hK.view hve e28 (n31 29 (by omega)) (ne 47 (by omega) (by omega) (by omega) (by omega) (by omega))
  · obtain ⟨⟨hK, hP, hS, hG, hR⟩, hrest⟩ := hD
    have nd : ∀ k1, k1 ≠ 12 → k1 ≠ 13 → k1 < 31 → M2 k1 = M k1 := fun k1 x1 x2 x3 => ne k1 x1 x2 (by omega) (by omega) (by omega)
    refine ⟨⟨?_, ?_, fun j hj => ⟨?_, ?_⟩, ?_, ?_⟩, ?_⟩
    · unfold DK at *
      simp only [nd 2 (by omega) (by omega) (by omega), nd 3 (by omega) (by omega) (by omega), nd 4 (by omega) (by omega) (by omega), nd 5 (by omega) (by omega) (by omega)]
      exact hK
    · unfold DP at *
      simp only [nd 1 (by omega) (by omega) (by omega), nd 6 (by omega) (by omega) (by omega), nd 7 (by omega) (by omega) (by omega), nd 8 (by omega) (by omega) (by omega), nd 9 (by omega) (by omega) (by omega), nd 10 (by omega) (by omega) (by omega)]
      exact hP
    · rw [m12]
      show upd (M 12) s (nI k - 1) j = nI (fs (g 40) s k j) - 1
      rw [c40 j]
      unfold upd
      split
      · rfl
      · exact (hS j hj).1
    · rw [m13]
      show upd (M 13) s (nI n) j = nI (fs (g 41) s n j)
      unfold upd fs
      split
      · rfl
      · exact (hS j hj).2
    · unfold DG at *
      rw [nd 14 (by omega) (by omega) (by omega)]; exact hG
    · unfold DR at *
      rw [nd 15 (by omega) (by omega) (by omega), nd 16 (by omega) (by omega) (by omega)]; exact hR
    · unfold DX DTr HD at *
      rw [nd 26 (by omega) (by omega) (by omega), nd 27 (by omega) (by omega) (by omega), nd 28 (by omega) (by omega) (by omega)]
      exact hrest
theorem op_feeder {X1 X2 X3 : Int32} (h : RX M) (kk : ∀ r M', M' 1000 = M 1000 → RX M' → Q r r M') : CE E (d + 1) n_D_feeder [.inr 0, .inl X1, .inl X2, .inl X3] M (fun r1 M1 => CE E (d + 1) n_M_feeder [.inr 31, .inl X1, .inl X2, .inl X3] M1 (fun r2 M2 => Q r1 r2 M2)) := by
  have fin : ∀ (s k n : Nat) (X Y : Int32) (v : Bool), s < 8 → k ≤ 8 → n ≤ 100 → X = nI k - 1 → Y = nI n → (v = true → ¬ M 31 28 = 0 ∧ M 40 s = X) → Q 1 1 (mset (mset (mset (mset (mset M 12 s X) 13 s Y) 31 28 (b2 v)) 40 s X) 41 s Y) := by
    intro s k n X Y v h1 h2 h3 h4 h5 h6
    refine kk _ _ ?_ (RX.feed h h1 h2 h3 h4 h5 h6)
    rw [mset_ne _ _ _ (by omega), mset_ne _ _ _ (by omega), mset_ne _ _ _ (by omega), mset_ne _ _ _ (by omega), mset_ne _ _ _ (by omega)]
  refine CE_of rfl (b_D_feeder_0 _ _ _ (c_D_isWithin ⟨fun c1 => ⟨fun c2 => ?_, fun c2 => ?_⟩, fun c1 => ⟨z01_0, ?_⟩⟩))
  · obtain ⟨s, hs, es⟩ := within_rng (m := 7) (by omega) (b2_nz.mp c1)
    have v : vp_in X1 8 := by rw [es]; exact vp_in_nI (by omega) (by omega)
    have ei : Int32.toNatClampNeg X1 = s := by rw [es]; exact nI_clamp (by omega)
    refine c_D_isWithin ⟨fun c3 => ⟨z01_0, ?_⟩, fun c3 => c_D_isWithin ⟨fun c4 => ?_, fun c4 => ⟨z01_0, ?_⟩⟩⟩
    · refine CE_of rfl (b_M_feeder_0 _ _ _ (c_M_lies ⟨fun z => absurd z c1, fun _ => c_M_lies ⟨fun _ => ⟨z01_0, kk _ M rfl h⟩, fun c5 => ?_⟩⟩))
      have c5 := of_decide_eq_true (b2_nz.mp c5)
      exact absurd ⟨m1_le c5.1 c2, c5.2⟩ (of_decide_eq_false (b2_z.mp c3))
    · obtain ⟨k, hk, ek⟩ := within_rng (m := 7) (by omega) (b2_nz.mp c3)
      obtain ⟨n, hn, en⟩ := within_rng (m := 100) (by omega) (b2_nz.mp c4)
      have l2 : ¬ b2 (decide ((-1 : Int32) ≤ X2 ∧ X2 ≤ 7)) = 0 := by
        rw [b2_nz, decide_eq_true_eq]
        have := of_decide_eq_true (b2_nz.mp c3)
        exact ⟨Int32.le_trans (by decide) this.1, this.2⟩
      have ek2 : X2 = nI (k + 1) - 1 := by rw [nI_sub1]; exact ek
      have g28 : mset (mset M 12 s X2) 13 s X3 31 28 = M 31 28 := by rw [mset_ne _ _ _ (by omega), mset_ne _ _ _ (by omega)]
      have g40 : mset (mset M 12 s X2) 13 s X3 40 s = M 40 s := by rw [mset_ne _ _ _ (by omega), mset_ne _ _ _ (by omega)]
      rw [es]
      refine c_S_fill (by omega) ⟨z01_1, ?_⟩
      rw [← es]
      refine CE_of rfl (b_M_feeder_0 _ _ _ (c_M_lies ⟨fun z => absurd z c1, fun _ => c_M_lies ⟨fun z => absurd z l2, fun _ => ⟨fun z => absurd z c2, fun _ => c_M_lies ⟨fun _ => ?_, fun z => absurd z c4⟩⟩⟩⟩))
      rw [ei, g28, g40]
      refine ⟨fun c5 => ⟨z01_0, v, fun _ => ⟨v, z01_1, fin s (k + 1) n X2 X3 false (by omega) (by omega) hn ek2 en (fun z => absurd z (by decide))⟩, fun z => absurd z c2⟩, fun c5 => ⟨v, fun c6 => ⟨z01_0, v, fun _ => ⟨v, z01_1, fin s (k + 1) n X2 X3 false (by omega) (by omega) hn ek2 en (fun z => absurd z (by decide))⟩, fun z => absurd z c2⟩, fun c6 => ⟨z01_1, v, fun _ => ⟨v, z01_1, fin s (k + 1) n X2 X3 true (by omega) (by omega) hn ek2 en (fun _ => ⟨c5, c6⟩)⟩, fun z => absurd z c2⟩⟩⟩
    · have l2 : ¬ b2 (decide ((-1 : Int32) ≤ X2 ∧ X2 ≤ 7)) = 0 := by
        rw [b2_nz, decide_eq_true_eq]
        have := of_decide_eq_true (b2_nz.mp c3)
        exact ⟨Int32.le_trans (by decide) this.1, this.2⟩
      exact CE_of rfl (b_M_feeder_0 _ _ _ (c_M_lies ⟨fun z => absurd z c1, fun _ => c_M_lies ⟨fun z => absurd z l2, fun _ => ⟨fun z => absurd z c2, fun _ => c_M_lies ⟨fun z => absurd c4 z, fun _ => ⟨z01_0, kk _ M rfl h⟩⟩⟩⟩⟩))
  · obtain ⟨s, hs, es⟩ := within_rng (m := 7) (by omega) (b2_nz.mp c1)
    have v : vp_in X1 8 := by rw [es]; exact vp_in_nI (by omega) (by omega)
    have ei : Int32.toNatClampNeg X1 = s := by rw [es]; exact nI_clamp (by omega)
    subst c2
    have l2 : ¬ b2 (decide ((-1 : Int32) ≤ (-1 : Int32) ∧ (-1 : Int32) ≤ 7)) = 0 := by decide
    have g28 : mset (mset M 12 s (-1)) 13 s 0 31 28 = M 31 28 := by rw [mset_ne _ _ _ (by omega), mset_ne _ _ _ (by omega)]
    have g40 : mset (mset M 12 s (-1)) 13 s 0 40 s = M 40 s := by rw [mset_ne _ _ _ (by omega), mset_ne _ _ _ (by omega)]
    have ek2 : (-1 : Int32) = nI 0 - 1 := rfl
    rw [es]
    refine c_S_fill (by omega) ⟨z01_1, ?_⟩
    rw [← es]
    refine CE_of rfl (b_M_feeder_0 _ _ _ (c_M_lies ⟨fun z => absurd z c1, fun _ => c_M_lies ⟨fun z => absurd z l2, fun _ => ⟨fun _ => ?_, fun z => absurd rfl z⟩⟩⟩))
    rw [ei, g28, g40]
    refine ⟨fun c5 => ⟨z01_0, v, fun z => absurd rfl z, fun _ => ⟨v, z01_1, fin s 0 0 (-1) 0 false (by omega) (by omega) (by omega) ek2 rfl (fun z => absurd z (by decide))⟩⟩, fun c5 => ⟨v, fun c6 => ⟨z01_0, v, fun z => absurd rfl z, fun _ => ⟨v, z01_1, fin s 0 0 (-1) 0 false (by omega) (by omega) (by omega) ek2 rfl (fun z => absurd z (by decide))⟩⟩, fun c6 => ⟨z01_1, v, fun z => absurd rfl z, fun _ => ⟨v, z01_1, fin s 0 0 (-1) 0 true (by omega) (by omega) (by omega) ek2 rfl (fun _ => ⟨c5, c6⟩)⟩⟩⟩⟩
  · exact CE_of rfl (b_M_feeder_0 _ _ _ (c_M_lies ⟨fun _ => ⟨z01_0, kk _ M rfl h⟩, fun z => absurd c1 z⟩))
end OV
