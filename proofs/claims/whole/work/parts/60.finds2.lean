/-! The reference's search: one plan. -/
section FO
variable {E : Env0} {d : Nat} {M : Mem} {Q : Int32 → Mem → Prop} {g : GS}
theorem m_finds_one {c : Nat → Nat} {P : (Nat → Nat) → Prop} {w : Nat} {x1 x2 x3 x4 x5 : Int32} (hW : Wk (gC g c)) (hWc : ∀ c', vC g c' → tkN (gC g c') ≤ 60000) (hc : vC g c) (hR : RC (gC g c) M) (hB : BSo g P (M 31 29) (M 47)) (o6 o9 : Option V)
    (k : ∀ M' o8 o9, (∀ k', k' ≠ 31 → k' ≠ 47 → M' k' = M k') → (∀ j, j < 21 ∨ 24 < j → j ≠ 29 → M' 31 j = M 31 j) → BSo g (fun c' => P c' ∨ eqN (pls g) c' c) (M' 31 29) (M' 47) → JE E (d + 4) n_M_finds 100 [some (.inr 31), some (.inl x1), some (.inl x2), some (.inl x3), some (.inl x4), some (.inl x5), o6, some (.inl (nI (w + 1))), o8, o9] [] M' Q) : JE E (d + 4) n_M_finds 123 [some (.inr 31), some (.inl x1), some (.inl x2), some (.inl x3), some (.inl x4), some (.inl x5), o6, some (.inl (nI w)), some (.inl (nI (pls g))), o9] [] M Q := by
  have hp10 : pls g ≤ 10 := hW.1
  have h4 : M 31 4 = nI (pls g) := hR.2.2.1
  have htk := hWc c hc
  refine b_M_finds_123 _ _ _ _ _ _ _ _ _ ⟨fun _ => ?_, fun z => absurd (by rw [h4]; exact nI_le (by omega) (by omega)) z⟩
  rw [nI_1]
  refine c_M_isGood hR hW ⟨fun c1 => ?_, fun c1 => ?_⟩
  · rw [b2_nz] at c1
    refine c_M_planTicks hR hW (fun M2 s2 => ?_)
    have e29 : M2 31 29 = M 31 29 := s2.2 29 (by omega)
    have e47 : M2 47 = M 47 := s2.1 47 (by omega)
    have hR2 := hR.sT s2
    have put : (∀ c2, vC g c2 → gdB (gC g c2) = true → M 31 29 = nI (tkN (gC g c2)) → (∀ j, j < pls g → M 47 j = nI (c2 j)) → tkN (gC g c) < tkN (gC g c2) ∨ (tkN (gC g c) = tkN (gC g c2) ∧ ∃ j, j < pls g ∧ (∀ j', j' < j → c j' = c2 j') ∧ c j < c2 j)) → ∀ o8, JE E (d + 4) n_M_finds 238 [some (.inr 31), some (.inl x1), some (.inl x2), some (.inl x3), some (.inl x4), some (.inl x5), o6, some (.inl (nI w)), o8, some (.inl (nI 0))] [] (mset M2 31 29 (nI (tkN (gC g c)))) Q := by
      intro hbet o8
      refine m_finds_238 (n := pls g) hp10 _ _ (pls g) 0 _ (by omega) (by rw [mset_eq]; exact hR2.2.2.1) (fun M3 s3 h3 => ?_)
      rw [nI_1]
      refine k M3 _ _ (fun k' a b => ?_) (fun j a b => ?_) ?_
      · rw [s3 k' b, mset_ne _ _ _ a]; exact s2.1 k' a
      · rw [s3 31 (by omega), mset_eq]
        show (if j = 29 then _ else _) = _
        rw [if_neg b]; exact s2.2 j a
      · have f29 : M3 31 29 = nI (tkN (gC g c)) := by rw [s3 31 (by omega), mset_eq]; exact if_pos rfl
        rw [f29]
        refine hB.put hc c1 (fun j hj => ?_) hbet
        rw [h3 j, if_pos (by omega), mset_ne _ _ _ (by omega)]
        exact hR2.at 42 (by omega) (by omega) (by omega) j
    have stay : M 31 29 ≠ -1 → (∀ c2, vC g c2 → gdB (gC g c2) = true → M 31 29 = nI (tkN (gC g c2)) → (∀ j, j < pls g → M 47 j = nI (c2 j)) → tkN (gC g c2) < tkN (gC g c) ∨ (tkN (gC g c2) = tkN (gC g c) ∧ ¬ ∃ j, j < pls g ∧ (∀ j', j' < j → c j' = c2 j') ∧ c j < c2 j)) → ∀ o8, JE E (d + 4) n_M_finds 100 [some (.inr 31), some (.inl x1), some (.inl x2), some (.inl x3), some (.inl x4), some (.inl x5), o6, some (.inl (nI (w + 1))), o8, o9] [] M2 Q := by
      intro hl hw o8
      refine k M2 _ _ (fun k' a _ => s2.1 k' a) (fun j a _ => s2.2 j a) ?_
      rw [e29, e47]
      exact hB.stay hl hw
    rw [e29]
    have hB2 := hB
    rcases hB2 with ⟨q1, -⟩ | ⟨c2, v2, -, g2, l2, r2, -⟩
    · refine ⟨fun _ => put (fun c2 hv2 _ z _ => ?_) _, fun z => absurd q1 z⟩
      rw [q1] at z
      exact absurd z.symm (nI_neg1 _ (by have := hWc c2 hv2; omega))
    · have t2 := hWc c2 v2
      have same : ∀ c', vC g c' → M 31 29 = nI (tkN (gC g c')) → tkN (gC g c') = tkN (gC g c2) := fun c' hv' z => by
        have := hWc c' hv'
        rw [l2] at z
        exact ((nI_eq (by omega) (by omega)).mp z).symm
      have rows : ∀ c', vC g c' → (∀ j, j < pls g → M 47 j = nI (c' j)) → ∀ j, j < pls g → c' j = c2 j := fun c' hv' z j hj => by
        have a := (hv'.1 j hj).1
        have b := (v2.1 j hj).1
        have z1 := z j hj
        rw [r2 j hj] at z1
        exact ((nI_eq (by omega) (by omega)).mp z1).symm
      have hl : M 31 29 ≠ -1 := by rw [l2]; exact nI_neg1 _ (by omega)
      refine ⟨fun z => absurd z hl, fun _ => ⟨fun c3 => ?_, fun c3 => ⟨fun c4 => ?_, fun c4 => ?_⟩⟩⟩
      · rw [l2, nI_ltI (by omega) (by omega)] at c3
        exact stay hl (fun c' hv' _ z _ => Or.inl (by rw [same c' hv' z]; exact c3)) _
      · rw [l2, nI_ltI (by omega) (by omega)] at c3
        rw [l2, nI_eq (by omega) (by omega)] at c4
        exact put (fun c' hv' _ z _ => Or.inl (by rw [same c' hv' z]; omega)) _
      · rw [l2, nI_eq (by omega) (by omega)] at c4
        refine c_M_isLess (n := pls g) (c := c) (b := c2) hp10 hR2.2.2.1 (fun j hj => ⟨hR2.at 42 (by omega) (by omega) (by omega) j, by have := (hc.1 j hj).1; omega⟩) (fun j hj => ⟨by rw [e47]; exact r2 j hj, by have := (v2.1 j hj).1; omega⟩) (fun o ho => ⟨fun c5 => ?_, fun c5 => ?_⟩)
        · rw [b2_nz] at c5
          obtain ⟨j, j1, j2, j3⟩ := ho.mp c5
          exact put (fun c' hv' _ z z2 => Or.inr ⟨by rw [same c' hv' z]; exact c4, j, j1, fun j' hj' => by rw [rows c' hv' z2 j' (by omega)]; exact j2 j' hj', by rw [rows c' hv' z2 j j1]; exact j3⟩) _
        · rw [b2_z] at c5
          refine stay hl (fun c' hv' _ z z2 => Or.inr ⟨by rw [same c' hv' z]; exact c4.symm, fun q => ?_⟩) _
          obtain ⟨j, j1, j2, j3⟩ := q
          have : o = true := ho.mpr ⟨j, j1, fun j' hj' => by rw [← rows c' hv' z2 j' (by omega)]; exact j2 j' hj', by rw [← rows c' hv' z2 j j1]; exact j3⟩
          rw [this] at c5
          exact absurd c5 (by decide)
  · rw [b2_z] at c1
    exact k M _ _ (fun _ _ _ => rfl) (fun _ _ _ => rfl) (hB.bad c1)
end FO
