/-! Operations: told. -/
section TO
variable {E : Env0} {d : Nat} {M : Mem} {g : GS}
theorem c_M_those {Q : Int32 → Mem → Prop} {st : Nat → Nat} {v : Nat} (hR : RC g M) (hW : Wk g) (h48 : ∀ p, M 48 p = nI (st p)) (hst : ∀ p, st p ≤ 2) (hv : v ≤ 2) (h : Q (nI (cnt (fun p => st p == v) (pls g) 0)) M) : CE E d n_M_those [.inr 31, .inl (nI v)] M Q := by
  have hp10 := hW.1
  have h4 : M 31 4 = nI (pls g) := hR.2.2.1
  have key : ∀ (n p : Nat), p + n = pls g → JE E d n_M_those 4 [some (.inr 31), some (.inl (nI v)), some (.inl (nI (cnt (fun p => st p == v) p 0))), some (.inl (nI p))] [] M Q := by
    intro n
    induction n with
    | zero =>
      intro p hp
      refine b_M_those_4 _ _ _ ⟨fun _ => ?_, fun c1 => absurd (by rw [h4]; exact nI_le (by omega) (by omega)) c1⟩
      rw [show p = pls g by omega]
      exact h
    | succ n ih =>
      intro p hp
      have hs := hst p
      have := ih (p + 1) (by omega)
      rw [cnt_last, Nat.zero_add] at this
      refine b_M_those_4 _ _ _ ⟨fun c1 => absurd c1 (by rw [h4]; exact nI_ge (by omega) (by omega)), fun _ => ⟨vp_in_nI (by omega) (by omega), ?_⟩⟩
      rw [nI_clamp (by omega), h48 p, nI_eq (by omega) (by omega), nI_1]
      refine ⟨fun c2 => ?_, fun c2 => ?_⟩
      · rw [if_neg (by simpa using c2)] at this
        rw [Int32.add_zero]
        exact this
      · rw [if_pos (by simpa using c2)] at this
        rw [nI_1]
        exact this
  exact CE_of rfl (b_M_those_0 _ (key (pls g) 0 (by omega)))
theorem cnt_beyond {f : Nat → Bool} {n : Nat} (hn : n ≤ 10) (h : ∀ p, n ≤ p → f p = false) : cnt f 10 0 = cnt f n 0 := by
  rw [← cnt_cut (f := f) (n := n) 10 hn]
  apply cnt_cong
  intro j _ _
  by_cases hj : j < n
  · simp [hj]
  · rw [h j (by omega), Bool.and_false]
theorem op_told {X : Int32} {Q : Int32 → Int32 → Mem → Prop} (h : RX M) (kk : ∀ r M', M' 1000 = M 1000 → RX M' → Q r r M') : CE E (d + 2) n_D_told [.inr 0, .inl X] M (fun r1 M1 => CE E (d + 2) n_M_told [.inr 31, .inl X] M1 (fun r2 M2 => Q r1 r2 M2)) := by
  obtain ⟨g, hr, ov, i, t, stp, rs, hI, hM, hD⟩ := id h
  obtain ⟨⟨hW, hp, hL, hRg⟩, ⟨h19, hmis⟩, ⟨hpa, hst⟩, ⟨hhr, hov⟩, hrb, hri, hout⟩ := id hI
  have hp10 := hW.1
  have h7 : M 26 7 = nI hr := hD.2.2.1
  have h30 : M 31 30 = nI hr := hM.2.2.2.1.1
  have h31 : M 31 31 = nI ov := hM.2.2.2.1.2.1
  have h35 : M 31 35 = nI t := hM.2.2.2.1.2.2.2
  refine CE_of rfl (b_D_told_0 _ ⟨fun c0 => ?_, fun c0 => ?_⟩)
  · have c0' : M 31 30 = 0 := by rw [h30, ← h7]; exact c0
    exact CE_of rfl (b_M_told_0 _ ⟨fun z => absurd c0' z, fun _ => kk _ M rfl h⟩)
  · have c0' : ¬ M 31 30 = 0 := by rw [h30, ← h7]; exact c0
    have hne : hr ≠ 0 := fun z => c0 (by rw [h7, z]; rfl)
    obtain ⟨e8, ⟨b14, b15, hH, e10, e11⟩, e12, e13⟩ := hD.2.2.2.1 hne
    obtain ⟨mH, m33, m34, m36⟩ := hM.2.2.2.2.1 hne
    have l1 := bitsOf_lt (fun p => rs.1 p == 1) 10
    have l2 := bitsOf_lt (fun p => rs.1 p == 2) 10
    have q : ∀ v, v ≠ 0 → pc (bitsOf (fun p => rs.1 p == v) 10) 10 = cnt (fun p => rs.1 p == v) (pls g) 0 := fun v hv => by
      rw [pc_bits (Nat.le_refl 10)]
      refine cnt_beyond hp10 (fun p hpp => ?_)
      rw [hout p hpp]
      simpa using fun z : 0 = v => hv z.symm
    refine CE_of rfl (b_T_tell_0 _ ⟨fun x0 => ?_, fun x0 => ⟨fun x1 => ?_, fun x1 => ⟨fun x2 => ?_, fun x2 => ⟨fun x3 => ?_, fun x3 => ⟨fun x4 => ?_, fun x4 => ⟨fun x5 => ?_, fun x5 => ⟨fun x6 => ?_, fun x6 => ⟨fun x7 => ?_, fun x7 => ?_⟩⟩⟩⟩⟩⟩⟩⟩)
    · refine CE_of rfl (b_M_told_0 _ ⟨fun _ => ⟨fun _ => ?_, fun z => absurd x0 z⟩, fun z => absurd z c0'⟩)
      rw [show M 27 3 = nI rs.2.2.1.2.2.2 from hH.2.2.2, show M 31 24 = nI rs.2.2.1.2.2.2 from mH.2.2.2]
      exact kk _ M rfl h
    · refine CE_of rfl (b_M_told_0 _ ⟨fun _ => ⟨fun z => absurd z x0, fun _ => ⟨fun _ => ?_, fun z => absurd x1 z⟩⟩, fun z => absurd z c0'⟩)
      rw [e10, m33]
      exact kk _ M rfl h
    · refine CE_of rfl (b_M_told_0 _ ⟨fun _ => ⟨fun z => absurd z x0, fun _ => ⟨fun z => absurd z x1, fun _ => ⟨fun _ => ?_, fun z => absurd x2 z⟩⟩⟩, fun z => absurd z c0'⟩)
      rw [e11, m34]
      exact kk _ M rfl h
    · rw [b14]
      refine c_JI_bitCount (by omega) ?_
      refine CE_of rfl (b_M_told_0 _ ⟨fun _ => ⟨fun z => absurd z x0, fun _ => ⟨fun z => absurd z x1, fun _ => ⟨fun z => absurd z x2, fun _ => ⟨fun _ => ?_, fun z => absurd x3 z⟩⟩⟩⟩, fun z => absurd z c0'⟩)
      refine c_M_those (v := 1) hM.1 hW hM.2.2.1 hst (by omega) ?_
      rw [q 1 (by omega)]
      exact kk _ M rfl h
    · rw [b15]
      refine c_JI_bitCount (by omega) ?_
      refine CE_of rfl (b_M_told_0 _ ⟨fun _ => ⟨fun z => absurd z x0, fun _ => ⟨fun z => absurd z x1, fun _ => ⟨fun z => absurd z x2, fun _ => ⟨fun z => absurd z x3, fun _ => ⟨fun _ => ?_, fun z => absurd x4 z⟩⟩⟩⟩⟩, fun z => absurd z c0'⟩)
      refine c_M_those (v := 2) hM.1 hW hM.2.2.1 hst (by omega) ?_
      rw [q 2 (by omega)]
      exact kk _ M rfl h
    · refine CE_of rfl (b_M_told_0 _ ⟨fun _ => ⟨fun z => absurd z x0, fun _ => ⟨fun z => absurd z x1, fun _ => ⟨fun z => absurd z x2, fun _ => ⟨fun z => absurd z x3, fun _ => ⟨fun z => absurd z x4, fun _ => ⟨fun _ => ?_, fun z => absurd x5 z⟩⟩⟩⟩⟩⟩, fun z => absurd z c0'⟩)
      rw [e13, m36]
      exact kk _ M rfl h
    · refine CE_of rfl (b_M_told_0 _ ⟨fun _ => ⟨fun z => absurd z x0, fun _ => ⟨fun z => absurd z x1, fun _ => ⟨fun z => absurd z x2, fun _ => ⟨fun z => absurd z x3, fun _ => ⟨fun z => absurd z x4, fun _ => ⟨fun z => absurd z x5, fun _ => ⟨fun _ => ?_, fun z => absurd x6 z⟩⟩⟩⟩⟩⟩⟩, fun z => absurd z c0'⟩)
      rw [e12, h35]
      exact kk _ M rfl h
    · rw [e8, ← h31]
      refine ⟨fun y => ?_, fun y => ?_⟩
      · exact CE_of rfl (b_M_told_0 _ ⟨fun _ => ⟨fun z => absurd z x0, fun _ => ⟨fun z => absurd z x1, fun _ => ⟨fun z => absurd z x2, fun _ => ⟨fun z => absurd z x3, fun _ => ⟨fun z => absurd z x4, fun _ => ⟨fun z => absurd z x5, fun _ => ⟨fun z => absurd z x6, fun _ => ⟨fun _ => ⟨fun _ => kk _ M rfl h, fun z => absurd y z⟩, fun z => absurd x7 z⟩⟩⟩⟩⟩⟩⟩⟩, fun z => absurd z c0'⟩)
      · exact CE_of rfl (b_M_told_0 _ ⟨fun _ => ⟨fun z => absurd z x0, fun _ => ⟨fun z => absurd z x1, fun _ => ⟨fun z => absurd z x2, fun _ => ⟨fun z => absurd z x3, fun _ => ⟨fun z => absurd z x4, fun _ => ⟨fun z => absurd z x5, fun _ => ⟨fun z => absurd z x6, fun _ => ⟨fun _ => ⟨fun z => absurd z y, fun _ => kk _ M rfl h⟩, fun z => absurd x7 z⟩⟩⟩⟩⟩⟩⟩⟩, fun z => absurd z c0'⟩)
    · exact CE_of rfl (b_M_told_0 _ ⟨fun _ => ⟨fun z => absurd z x0, fun _ => ⟨fun z => absurd z x1, fun _ => ⟨fun z => absurd z x2, fun _ => ⟨fun z => absurd z x3, fun _ => ⟨fun z => absurd z x4, fun _ => ⟨fun z => absurd z x5, fun _ => ⟨fun z => absurd z x6, fun _ => ⟨fun z => absurd z x7, fun _ => kk _ M rfl h⟩⟩⟩⟩⟩⟩⟩⟩, fun z => absurd z c0'⟩)
end TO
