/-! The reference's search: rows in order, whatever the plan holds. -/
def WA (g : GS) : Prop := pls g ≤ 10 ∧ True ∧ (∀ p, p < 10 → g 36 p ≤ 199 ∧ g 37 p ≤ 199 ∧ g 38 p < 8) ∧ (∀ k, k < 8 → g 32 k ≤ 20 ∧ g 33 k ≤ 9 ∧ g 34 k ≤ 2 ∧ g 35 k ≤ 1) ∧ (∀ j, g 39 j ≤ 1) ∧ True
theorem Wk.wa {g : GS} (h : Wk g) (c : Nat → Nat) : WA (gC g c) := ⟨h.1, trivial, h.2.2.1, h.2.2.2.1, h.2.2.2.2.1, trivial⟩
theorem Wk.gc {g : GS} (h : Wk g) {c : Nat → Nat} (hc : vC g c) : Wk (gC g c) := by
  obtain ⟨h1, h2, h3, h4, h5, h6, h7, h8, h9⟩ := h
  exact ⟨h1, h1, h3, h4, h5, h6, h7, h8, fun i hi => hc.1 i hi⟩
section WAs
variable {E : Env0} {d : Nat} {M : Mem} {Q : Int32 → Mem → Prop} {g : GS}
theorem c_M_areWithinA {p q m : Nat} (hR : RC g M) (hW : WA g) (hp : p < 10) (hq : q < 10) (hm : m ≤ 3) (h : Q (b2 (wiB g p q m)) M) : CE E (d + 1) n_M_areWithin [.inr 31, .inl (nI p), .inl (nI q), .inl (nI m)] M Q := by
  obtain ⟨a1, a2, a3⟩ := hW.2.2.1 p hp
  obtain ⟨b1, b2', b3⟩ := hW.2.2.1 q hq
  have k1 := (hW.2.2.2.1 _ a3).1
  have k2 := (hW.2.2.2.1 _ b3).1
  have d1 := dst_le a1 b1
  have d2 := dst_le a2 b2'
  have m36 := hR.at 36 (by omega) (by omega) (by omega)
  have m37 := hR.at 37 (by omega) (by omega) (by omega)
  have m38 := hR.at 38 (by omega) (by omega) (by omega)
  have m32 := hR.at 32 (by omega) (by omega) (by omega)
  refine CE_of rfl (b_M_areWithin_0 _ _ _ ?_)
  simp (disch := omega) only [nI_clamp, m38, m36, m32, nI_add]
  refine ⟨vp_in_nI hp (by omega), vp_in_nI a3 (by omega), vp_in_nI hq (by omega), vp_in_nI b3 (by omega), vp_in_nI hp (by omega), vp_in_nI hq (by omega), c_M_far (by omega) (by omega) ⟨fun c1 => ⟨z01_0, ?_⟩, fun c1 => ⟨vp_in_nI hp (by omega), vp_in_nI hq (by omega), ?_⟩⟩⟩
  · rw [nI_leI (by omega) (by omega)] at c1
    have e : wiB g p q m = false := by unfold wiB; simp; omega
    simpa [b2, e] using h
  simp (disch := omega) only [nI_clamp, m37]
  refine c_M_far (by omega) (by omega) ⟨fun c2 => ⟨z01_0, ?_⟩, fun c2 => ⟨z01_1, ?_⟩⟩
  · rw [nI_leI (by omega) (by omega)] at c1 c2
    have e : wiB g p q m = false := by unfold wiB; simp; omega
    simpa [b2, e] using h
  · rw [nI_leI (by omega) (by omega)] at c1 c2
    have e : wiB g p q m = true := by unfold wiB; simp; omega
    simpa [b2, e] using h
theorem c_M_isAheadA {p q : Nat} (hR : RC g M) (hW : WA g) (hp : p < 10) (hq : q < 10) (h : Q (b2 (ahB g p q)) M) : CE E (d + 2) n_M_isAhead [.inr 31, .inl (nI p), .inl (nI q)] M Q := by
  obtain ⟨a1, a2, a3⟩ := hW.2.2.1 p hp
  obtain ⟨b1, b2', b3⟩ := hW.2.2.1 q hq
  have k1 := (hW.2.2.2.1 _ a3).2.1
  have k2 := (hW.2.2.2.1 _ b3).2.1
  have l1 := hW.2.2.2.2.1 (10 * q + p)
  refine CE_of rfl (b_M_isAhead_0 _ _ ?_)
  have e10 : (10 : Int32) * nI q + nI p = nI (10 * q + p) := by
    rw [show (10 : Int32) = nI 10 from rfl, pk_mul, nI_add]
  rw [e10]
  simp only [nI_clamp (show 10 * q + p < 2 ^ 31 by omega), hR.at 39 (by omega) (by omega) (by omega)]
  refine ⟨vp_in_nI (by omega) (by omega), fun c1 => ⟨z01_1, ?_⟩, fun c1 => c_M_areWithinA (m := 3) hR hW hp hq (by omega) ⟨fun c2 => ⟨z01_0, ?_⟩, fun c2 => ?_⟩⟩
  · rw [show (0 : Int32) = nI 0 from rfl, nI_eq (by omega) (by omega)] at c1
    have e : ahB g p q = true := by
      unfold ahB
      have : g 39 (10 * q + p) = 1 := by omega
      simp [this]
    simpa [b2, e] using h
  · rw [show (0 : Int32) = nI 0 from rfl, nI_eq (by omega) (by omega)] at c1
    rw [b2_z] at c2
    have e : ahB g p q = false := by
      unfold ahB
      unfold wiB at c2
      rw [c1]
      simp only [Bool.and_eq_false_iff, decide_eq_false_iff_not] at c2
      simp
      omega
    simpa [b2, e] using h
  · rw [show (0 : Int32) = nI 0 from rfl, nI_eq (by omega) (by omega)] at c1
    rw [b2_nz] at c2
    unfold wiB at c2
    simp only [Bool.and_eq_true, decide_eq_true_eq] at c2
    simp only [nI_clamp (show p < 2 ^ 31 by omega), nI_clamp (show q < 2 ^ 31 by omega), hR.at 38 (by omega) (by omega) (by omega), hR.at 33 (by omega) (by omega) (by omega), nI_clamp (show g 38 p < 2 ^ 31 by omega), nI_clamp (show g 38 q < 2 ^ 31 by omega)]
    refine ⟨vp_in_nI hp (by omega), vp_in_nI a3 (by omega), vp_in_nI hq (by omega), vp_in_nI b3 (by omega), fun c3 => ⟨z01_0, ?_⟩, fun c3 => ⟨z01_1, ?_⟩⟩
    · rw [nI_leI (by omega) (by omega)] at c3
      have e : ahB g p q = false := by
        unfold ahB
        rw [c1]
        simp
        omega
      simpa [b2, e] using h
    · rw [nI_leI (by omega) (by omega)] at c3
      have e : ahB g p q = true := by
        unfold ahB
        rw [c1]
        simp
        omega
      simpa [b2, e] using h
theorem c_M_isInOrderA {r : Nat → Nat} (hR : RC g M) (hW : WA g) (hr : ∀ j, j < pls g → M 46 j = nI (r j) ∧ r j < 10) (k : ∀ o, (o = true ↔ ∀ i j, i < j → j < pls g → ahB g (r j) (r i) = false) → Q (b2 o) M) : CE E (d + 3) n_M_isInOrder [.inr 31] M Q := by
  have hp10 := hW.1
  have h4 : M 31 4 = nI (pls g) := hR.2.2.1
  have key : ∀ (m i : Nat) (o2 : Option V), i + m = pls g → (∀ i' j, i' < i → i' < j → j < pls g → ahB g (r j) (r i') = false) → JE E (d + 3) n_M_isInOrder 2 [some (.inr 31), some (.inl (nI i)), o2] [] M Q := by
    intro m
    induction m with
    | zero =>
      intro i o2 hi hok
      exact b_M_isInOrder_2 _ _ ⟨fun _ => ⟨z01_1, k true ⟨fun _ i' j a b => hok i' j (by omega) a b, fun _ => rfl⟩⟩, fun c1 => absurd (by rw [h4]; exact nI_le (by omega) (by omega)) c1⟩
    | succ m ih =>
      intro i o2 hi hok
      obtain ⟨r1, r2⟩ := hr i (by omega)
      have inner : ∀ (l j : Nat), j + l = pls g → i < j → (∀ j', i < j' → j' < j → ahB g (r j') (r i) = false) → JE E (d + 3) n_M_isInOrder 14 [some (.inr 31), some (.inl (nI i)), some (.inl (nI j))] [] M Q := by
        intro l
        induction l with
        | zero =>
          intro j hj hij hin
          refine b_M_isInOrder_14 _ _ ⟨fun _ => ?_, fun c1 => absurd (by rw [h4]; exact nI_le (by omega) (by omega)) c1⟩
          rw [nI_1]
          refine ih (i + 1) _ (by omega) (fun i' j' a b c => ?_)
          by_cases q : i' = i
          · subst q; exact hin j' b (by omega)
          · exact hok i' j' (by omega) b c
        | succ l ihl =>
          intro j hj hij hin
          obtain ⟨q1, q2⟩ := hr j (by omega)
          refine b_M_isInOrder_14 _ _ ⟨fun c1 => absurd c1 (by rw [h4]; exact nI_ge (by omega) (by omega)), fun _ => ⟨vp_in_nI (by omega) (by omega), vp_in_nI (by omega) (by omega), ?_⟩⟩
          rw [nI_clamp (by omega), nI_clamp (by omega), q1, r1, nI_1]
          refine c_M_isAheadA hR hW q2 r2 ⟨fun c2 => ihl (j + 1) (by omega) (by omega) (fun j' a b => ?_), fun c2 => ⟨z01_0, k false ⟨fun z => absurd z (by decide), fun z => ?_⟩⟩⟩
          · by_cases q : j' = j
            · rw [q]; exact b2_z.mp c2
            · exact hin j' a (by omega)
          · have := z i j hij (by omega)
            rw [b2_nz, this] at c2
            exact absurd c2 (by decide)
      refine b_M_isInOrder_2 _ _ ⟨fun c1 => absurd c1 (by rw [h4]; exact nI_ge (by omega) (by omega)), fun _ => ?_⟩
      rw [nI_1]
      exact inner (pls g - (i + 1)) (i + 1) (by omega) (by omega) (fun j' a b => by omega)
  exact CE_of rfl (b_M_isInOrder_0 (key (pls g) 0 _ (by omega) (fun i' j z => by omega)))
end WAs
