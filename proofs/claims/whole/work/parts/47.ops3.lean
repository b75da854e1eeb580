/-! Operations: late, lay, machine. -/
section OS
variable {E : Env0} {d : Nat} {M : Mem} {Q : Int32 → Int32 → Mem → Prop}
theorem Wk.lt {g : GS} (hW : Wk g) (p q : Nat) : Wk (gL g p q) := by
  obtain ⟨w1, w2, w3, w4, w5, w6⟩ := hW
  refine ⟨w1, w2, w3, w4, fun j => ?_, w6⟩
  show fs (g 39) (10 * p + q) 1 j ≤ 1
  unfold fs
  split
  · omega
  · exact w5 j
theorem op_late {X Y : Int32} (h : RX M) (k : ∀ r M', M' 1000 = M 1000 → RX M' → Q r r M') : CE E (d + 4) n_D_late [.inr 0, .inl X, .inl Y] M (fun r1 M1 => CE E (d + 4) n_M_late [.inr 31, .inl X, .inl Y] M1 (fun r2 M2 => Q r1 r2 M2)) := by
  obtain ⟨g, hr, ov, i, t, stp, rs, hI, hM, hD⟩ := id h
  obtain ⟨⟨hW, hp, hL, hRg⟩, ⟨h19, hmis⟩, ⟨hpa, hst⟩, ⟨hhr, hov⟩, hrb, hri, hout⟩ := id hI
  have hp10 := hW.1
  have inj : ∀ a b, a < 2 ^ 31 → b < 2 ^ 31 → nI a = nI b → a = b := fun a b ha hb e => (nI_eq ha hb).mp e
  have tw : ∀ p q, p < pls g → q < pls g → p ≠ q → twB g (nI p) (nI q) = true := by
    intro p q a b c
    have f : ∀ z, z < pls g → decide ((0 : Int32) ≤ nI z ∧ nI z ≤ nI (pls g) - 1) = true := by
      intro z hz
      have e : nI (pls g) - 1 = nI (pls g - 1) := by
        rw [show pls g = (pls g - 1) + 1 by omega, nI_sub1]
        rfl
      rw [decide_eq_true_eq, zero_nI, e]
      exact ⟨nI_le (by omega) (by omega), nI_le (by omega) (by omega)⟩
    unfold twB
    rw [f p a, f q b]
    simp
    exact fun z => c (inj _ _ (by omega) (by omega) z)
  have dup : ∀ M2, sL M M2 → RC g M2 → M2 31 = M 31 → RX M2 := by
    intro M2 s2 hR2 e31
    refine ⟨g, hr, ov, i, t, stp, rs, hI, ?_, hD.fr (fun k1 a b _ => s2.1 k1 (by omega) (by omega) (by omega))⟩
    obtain ⟨hC, hX, h48, hs, hMr, hK⟩ := hM
    refine ⟨hR2, ⟨fun n => ?_, ?_⟩, fun p => ?_, ?_, fun z => ?_, ?_⟩
    · rw [s2.1 43 (by omega) (by omega) (by omega)]; exact hX.1 n
    · rw [e31]; exact hX.2
    · rw [s2.1 48 (by omega) (by omega) (by omega)]; exact h48 p
    · rw [e31]; exact hs
    · unfold HM
      rw [e31]; exact hMr z
    · exact hK.view VE.rf (by rw [e31]) (by rw [e31]) (s2.1 47 (by omega) (by omega) (by omega))
  refine c_D_late (d := d + 1) hD.1 hW hp hRg (fun c0 => ?_) (fun p q ex ey h1 h2 h3 h4 => ?_) (fun p q ex ey h1 h2 h3 h4 h5 => ?_) (fun p q ex ey h1 h2 h3 h4 h5 M1 s1 hD1 e7 => ?_)
  · refine c_M_late hM.1 hW hp (fun _ => k _ M rfl h) (fun p q ex ey h1 h2 h3 _ => k _ M rfl h) (fun p q ex ey h1 h2 h3 _ _ => ?_) (fun p q ex ey h1 h2 h3 _ _ => ?_)
    · rw [ex, ey, tw p q h1 h2 h3] at c0
      exact absurd c0 (by decide)
    · rw [ex, ey, tw p q h1 h2 h3] at c0
      exact absurd c0 (by decide)
  · subst ex ey
    refine c_M_late hM.1 hW hp (fun _ => k _ M rfl h) (fun p q ex ey h1 h2 h3 _ => k _ M rfl h) (fun p2 q2 ex ey _ _ _ g0 _ M2 s2 hR2 e2 => k _ M2 (s2.1 1000 (by omega) (by omega) (by omega)) (dup M2 s2 hR2 e2)) (fun p2 q2 ex ey z1 z2 _ g0 _ => ?_)
    have e1 := inj _ _ (by omega) (by omega) ex
    have e2 := inj _ _ (by omega) (by omega) ey
    subst e1 e2
    omega
  · subst ex ey
    refine c_M_late hM.1 hW hp (fun _ => k _ M rfl h) (fun p q ex ey h1 h2 h3 _ => k _ M rfl h) (fun p2 q2 ex ey _ _ _ g0 _ M2 s2 hR2 e2 => k _ M2 (s2.1 1000 (by omega) (by omega) (by omega)) (dup M2 s2 hR2 e2)) (fun p2 q2 ex ey z1 z2 _ g0 hn => ?_)
    have e1 := inj _ _ (by omega) (by omega) ex
    have e2 := inj _ _ (by omega) (by omega) ey
    subst e1 e2
    exact absurd h5 hn
  · subst ex ey
    have hM1 : RelM g hr ov i t stp rs M1 := hM.fr (fun k1 a b _ _ _ _ _ => s1.1 k1 (by omega) (by omega) (by omega) (by omega) (by omega) (by omega) (by omega) (by omega))
    refine c_M_late hM1.1 hW hp (fun c0 => ?_) (fun p2 q2 ex ey z1 z2 _ g0 => ?_) (fun p2 q2 ex ey z1 z2 _ g0 hn => ?_) (fun p2 q2 ex ey z1 z2 _ _ _ M2 s2 hR2 f28 f30 => ?_)
    · rw [tw p q h1 h2 h3] at c0
      exact absurd c0 (by decide)
    · have e1 := inj _ _ (by omega) (by omega) ex
      have e2 := inj _ _ (by omega) (by omega) ey
      subst e1 e2
      omega
    · have e1 := inj _ _ (by omega) (by omega) ex
      have e2 := inj _ _ (by omega) (by omega) ey
      subst e1 e2
      exact absurd hn h5
    · have e1 := inj _ _ (by omega) (by omega) ex
      have e2 := inj _ _ (by omega) (by omega) ey
      subst e1 e2
      obtain ⟨hC, hX, h48, hs, hMr, hK⟩ := hM1
      have o : ∀ j, j ≠ 16 → j ≠ 30 → j ≠ 28 → M2 31 j = M1 31 j := s2.2
      have fr : ∀ k1, k1 < 31 → M2 k1 = M1 k1 := fun k1 a => s2.1 k1 (by omega) (by omega) (by omega)
      refine k _ M2 ((s2.1 1000 (by omega) (by omega) (by omega)).trans (s1.1 1000 (by omega) (by omega) (by omega) (by omega) (by omega) (by omega) (by omega) (by omega))) ?_
      refine RX.mk0 (g := g31 (gL g p q) 16 0) (ov := ov) (i := i) (t := t) (st := rs.1) ⟨(hW.lt p q).clr, ?_, fun a b ha hb hh => ?_, h5⟩ ⟨h19, hmis⟩ hst hout (fun p => ?_) hov hR2 ⟨fun n => ?_, ?_⟩ f30 ?_ ?_ ?_ (Or.inl f28) (hD1.fr (fun k1 a b => fr k1 (by omega))) ⟨fun n hnn => ?_, ?_⟩ ?_
      · refine ⟨fun i j _ h => absurd h (by show ¬ j < 0; omega), fun h => absurd h (by show ¬ 0 < 0; omega), fun z => ?_⟩
        show fs (g 39) (10 * p + q) 1 (10 * z + z) = 0
        rw [fs_ne _ _ (by omega)]
        exact hp.2.2 z
      · have hh : fs (g 39) (10 * p + q) 1 (10 * a + b) = 1 := hh
        show a < pls g ∧ b < pls g
        by_cases he : 10 * a + b = 10 * p + q
        · omega
        · rw [fs_ne _ _ he] at hh
          exact hL a b ha hb hh
      · rw [s2.1 48 (by omega) (by omega) (by omega)]; exact h48 p
      · rw [s2.1 43 (by omega) (by omega) (by omega)]; exact hX.1 n
      · rw [o 19 (by omega) (by omega) (by omega)]; exact hX.2
      · rw [o 31 (by omega) (by omega) (by omega)]; exact hs.2.1
      · rw [o 32 (by omega) (by omega) (by omega)]; exact hs.2.2.1
      · rw [o 35 (by omega) (by omega) (by omega)]; exact hs.2.2.2
      · rw [fr 28 (by omega), s1.1 28 (by omega) (by omega) (by omega) (by omega) (by omega) (by omega) (by omega) (by omega)]; exact hD.2.1.1 n hnn
      · rw [fr 26 (by omega), s1.2 6 (by omega)]; exact hD.2.1.2
      · rw [fr 26 (by omega)]; exact e7
theorem op_lay (h : RX M) (k : ∀ r M', M' 1000 = M 1000 → RX M' → Q r r M') : CE E (d + 5) n_D_lay [.inr 0] M (fun r1 M1 => CE E (d + 5) n_M_lay [.inr 31] M1 (fun r2 M2 => Q r1 r2 M2)) := by
  obtain ⟨g, hr, ov, i, t, stp, rs, hI, hM, hD⟩ := id h
  obtain ⟨⟨hW, hp, hL, hRg⟩, ⟨h19, hmis⟩, ⟨hpa, hst⟩, ⟨hhr, hov⟩, hrb, hri, hout⟩ := id hI
  refine c_D_lay hD.1 hW hp (fun hg => c_M_lay (d := d + 1) hM.1 hW hp (fun _ => k _ M rfl h) (fun hg2 => by rw [hg] at hg2; exact absurd hg2 (by decide))) (fun hg M1 f0 f26 hD1 => ?_)
  have hM1 : RelM g hr ov i t stp rs M1 := hM.fr (fun k1 a b _ _ _ _ _ => f0 k1 (by omega) (by omega) (by omega) (by omega) (by omega))
  refine c_M_lay (d := d + 1) hM1.1 hW hp (fun hg2 => by rw [hg] at hg2; exact absurd hg2 (by decide)) (fun _ M2 s2 e28 hR2 => ?_)
  obtain ⟨hC, hX, h48, hs, hMr, hK⟩ := hM1
  have oth : ∀ k1, k1 ≠ 40 → k1 ≠ 41 → (laN g).2 k1 = g k1 := by
    unfold laN
    exact laF_oth (tkN g + 1) 0 g
  have h0 := @laN_0 g
  have ewf : Wk (laN g).2 ∧ Wp (laN g).2 := by
    unfold laN
    exact laF_wf (tkN g + 1) 0 g hW hp
  generalize laN g = L at *
  obtain ⟨n, G⟩ := L
  simp only at *
  have ne : ∀ k1, k1 ≠ 31 → k1 ≠ 40 → k1 ≠ 41 → mset M2 31 30 0 k1 = M1 k1 := fun k1 a b c => by rw [mset_ne _ _ _ a]; exact s2.1 k1 a b c
  have n31 : ∀ j, j ≠ 30 → mset M2 31 30 0 31 j = M2 31 j := fun j a => by rw [mset_eq]; exact if_neg a
  have ea : ∀ a b, ahB G a b = ahB g a b := by
    intro a b
    unfold ahB
    rw [oth 39 (by omega) (by omega), oth 36 (by omega) (by omega), oth 37 (by omega) (by omega), oth 38 (by omega) (by omega), oth 32 (by omega) (by omega), oth 33 (by omega) (by omega)]
  have ep : pls G = pls g := by
    unfold pls
    rw [oth 31 (by omega) (by omega)]
  refine k _ _ (by rw [ne 1000 (by omega) (by omega) (by omega)]; exact f0 1000 (by omega) (by omega) (by omega) (by omega) (by omega)) ?_
  refine RX.mk0 (g := G) (ov := ov) (i := i) (t := t) (st := rs.1) ⟨ewf.1, ewf.2, fun a b ha hb hh => ?_, ?_⟩ ⟨by rw [oth 31 (by omega) (by omega)]; exact h19, fun n => by rw [oth 43 (by omega) (by omega)]; exact hmis n⟩ hst (fun p z => hout p (by rw [← ep]; exact z)) (fun p => ?_) hov (hR2.o31 30 0 (by omega) (by omega)) ⟨fun n => ?_, ?_⟩ ?_ ?_ ?_ ?_ ?_ (hD1.fr (fun k1 a b => ne k1 (by omega) (by omega) (by omega))) ⟨fun n hnn => ?_, ?_⟩ ?_
  · rw [oth 39 (by omega) (by omega)] at hh
    rw [ep]
    exact hL a b ha hb hh
  · rw [ep]
    exact fun z => hRg ((Rg_cong (fun a b _ _ => ea a b)).mp z)
  · rw [ne 48 (by omega) (by omega) (by omega)]; exact h48 p
  · rw [ne 43 (by omega) (by omega) (by omega), oth 43 (by omega) (by omega)]; exact hX.1 n
  · rw [n31 19 (by omega), s2.2 19 (by omega) (by omega), oth 31 (by omega) (by omega)]; exact hX.2
  · rw [mset_eq]; exact if_pos rfl
  · rw [n31 31 (by omega), s2.2 31 (by omega) (by omega)]; exact hs.2.1
  · rw [n31 32 (by omega), s2.2 32 (by omega) (by omega)]; exact hs.2.2.1
  · rw [n31 35 (by omega), s2.2 35 (by omega) (by omega)]; exact hs.2.2.2
  · by_cases hn : n = 0
    · have eG : G = g := h0 hn
      rw [if_pos hn] at e28
      rw [eG]
      exact hK.view VE.rf (by rw [n31 28 (by omega)]; exact e28) (by rw [n31 29 (by omega)]; exact s2.2 29 (by omega) (by omega)) (ne 47 (by omega) (by omega) (by omega))
    · rw [if_neg hn] at e28
      exact Or.inl (by rw [n31 28 (by omega)]; exact e28)
  · rw [ne 28 (by omega) (by omega) (by omega), f0 28 (by omega) (by omega) (by omega) (by omega) (by omega), oth 43 (by omega) (by omega)]; exact hD.2.1.1 n hnn
  · rw [ne 26 (by omega) (by omega) (by omega), f26, oth 31 (by omega) (by omega)]
    exact hD.2.1.2
  · rw [ne 26 (by omega) (by omega) (by omega), f26]
    exact if_pos rfl
end OS
