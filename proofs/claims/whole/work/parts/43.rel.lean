/-! What class and reference share between two calls. -/
/-- the plan is c, of all places -/
def gC (g : GS) (c : Nat → Nat) : GS := sG (g31 g 16 (pls g)) 42 c
def vC (g : GS) (c : Nat → Nat) : Prop := (∀ j, j < pls g → c j < 32 ∧ c j % 16 < pls g) ∧ (∀ i j, i < j → j < pls g → c i % 16 ≠ c j % 16) ∧ 16 ≤ c 0
/-- row against row -/
def LX (n : Nat) (c c' : Nat → Nat) : Prop := ∃ j, j ≤ n ∧ (∀ j', j' < j → c j' = c' j') ∧ (j = n ∨ c j < c' j)
/-- the best plan's ticks and row -/
def BS (g : GS) (l : Int32) (row : Nat → Int32) : Prop :=
  (l = -1 ∧ ∀ c, vC g c → gdB (gC g c) = false) ∨ ∃ c, vC g c ∧ gdB (gC g c) = true ∧ l = nI (tkN (gC g c)) ∧ (∀ j, j < pls g → row j = nI (c j)) ∧ ∀ c', vC g c' → gdB (gC g c') = true → tkN (gC g c) < tkN (gC g c') ∨ (tkN (gC g c) = tkN (gC g c') ∧ LX (pls g) c c')
def KN (g : GS) (M : Mem) : Prop := M 31 28 = 0 ∨ (M 31 28 = 1 ∧ BS g (M 31 29) (M 47))
def DTr (rs : RS) (M : Mem) : Prop := M 26 14 = nI (bitsOf (fun p => rs.1 p == 1) 10) ∧ M 26 15 = nI (bitsOf (fun p => rs.1 p == 2) 10) ∧ HD 27 rs.2.2.1 M ∧ M 26 10 = nI rs.2.2.2.1 ∧ M 26 11 = nI rs.2.2.2.2
def Inv (g : GS) (hr ov i : Nat) (rs : RS) : Prop := (Wk g ∧ Wp g ∧ WL g ∧ ¬ Rg (pls g) (ahB g)) ∧ (g 31 19 ≤ 3 ∧ ∀ n, g 43 n ≤ 1) ∧ (rs.2.1 = g 41 ∧ ∀ p, rs.1 p ≤ 2) ∧ (hr ≤ 1 ∧ ov ≤ 1) ∧ (hr ≠ 0 → rsB rs) ∧ (hr ≠ 0 → ov = 0 → RI0 g i rs) ∧ ∀ p, pls g ≤ p → rs.1 p = 0
def RelM (g : GS) (hr ov i t stp : Nat) (rs : RS) (M : Mem) : Prop := RC g M ∧ MX g M ∧ (∀ p, M 48 p = nI (rs.1 p)) ∧ (M 31 30 = nI hr ∧ M 31 31 = nI ov ∧ M 31 32 = nI i ∧ M 31 35 = nI t) ∧ (hr ≠ 0 → HM rs.2.2.1 M ∧ M 31 33 = nI rs.2.2.2.1 ∧ M 31 34 = nI rs.2.2.2.2 ∧ M 31 36 = nI stp - 1) ∧ KN g M
def RelD (g : GS) (hr ov i t stp : Nat) (rs : RS) (M : Mem) : Prop := DC g M ∧ DX g M ∧ M 26 7 = nI hr ∧ (hr ≠ 0 → M 26 8 = nI ov ∧ DTr rs M ∧ M 26 12 = nI t ∧ M 26 13 = nI stp - 1) ∧ (hr ≠ 0 → ov = 0 → M 26 9 = nI i)
def RX (M : Mem) : Prop := ∃ g hr ov i t stp rs, Inv g hr ov i rs ∧ RelM g hr ov i t stp rs M ∧ RelD g hr ov i t stp rs M
section RR
variable {E : Env0} {d : Nat} {M : Mem} {g : GS} {hr ov i t stp : Nat} {rs : RS}
theorem RelM.fr (h : RelM g hr ov i t stp rs M) {M' : Mem} (e : ∀ k, 31 ≤ k → k ≤ 50 → k ≠ 44 → k ≠ 45 → k ≠ 46 → k ≠ 49 → k ≠ 50 → M' k = M k) : RelM g hr ov i t stp rs M' := by
  obtain ⟨⟨r1, r2, r3, r4⟩, ⟨x1, x2⟩, h48, hs, hh, hk⟩ := h
  have e31 : M' 31 = M 31 := e 31 (by omega) (by omega) (by omega) (by omega) (by omega) (by omega) (by omega)
  refine ⟨⟨fun k a b c j => ?_, fun j => ?_, ?_, fun j a b => ?_⟩, ⟨fun n => ?_, ?_⟩, fun p => ?_, ?_, ?_, ?_⟩
  · rw [e k (by omega) (by omega) (by omega) (by omega) (by omega) (by omega) (by omega)]; exact r1 k a b c j
  · rw [e 40 (by omega) (by omega) (by omega) (by omega) (by omega) (by omega) (by omega)]; exact r2 j
  · rw [e31]; exact r3
  · rw [e31]; exact r4 j a b
  · rw [e 43 (by omega) (by omega) (by omega) (by omega) (by omega) (by omega) (by omega)]; exact x1 n
  · rw [e31]; exact x2
  · rw [e 48 (by omega) (by omega) (by omega) (by omega) (by omega) (by omega) (by omega)]; exact h48 p
  · rw [e31]; exact hs
  · unfold HM at *
    rw [e31]; exact hh
  · unfold KN at *
    rw [e31, e 47 (by omega) (by omega) (by omega) (by omega) (by omega) (by omega) (by omega)]; exact hk
theorem RelD.fr (h : RelD g hr ov i t stp rs M) {M' : Mem} (e : ∀ k, 1 ≤ k → k ≤ 28 → (k ≤ 16 ∨ 26 ≤ k) → M' k = M k) : RelD g hr ov i t stp rs M' := by
  obtain ⟨hD, ⟨x1, x2⟩, h7, hh, h9⟩ := h
  have e26 : M' 26 = M 26 := e 26 (by omega) (by omega) (by omega)
  refine ⟨hD.fr (fun k a b => e k a (by omega) (by omega)), ⟨fun n hn => ?_, ?_⟩, ?_, ?_, ?_⟩
  · rw [e 28 (by omega) (by omega) (by omega)]; exact x1 n hn
  · rw [e26]; exact x2
  · rw [e26]; exact h7
  · unfold DTr HD at *
    rw [e26, e 27 (by omega) (by omega) (by omega)]; exact hh
  · rw [e26]; exact h9
variable {Q : Int32 → Int32 → Mem → Prop}
theorem op_good (h : RX M) (k : ∀ r M', M' 1000 = M 1000 → RX M' → Q r r M') : CE E (d + 4) n_D_good [.inr 0] M (fun r1 M1 => CE E (d + 4) n_M_good [.inr 31] M1 (fun r2 M2 => Q r1 r2 M2)) := by
  obtain ⟨g, hr, ov, i, t, stp, rs, hI, hM, hD⟩ := id h
  refine CE_of rfl (b_D_good_0 (c_K_isGood hD.1 hI.1.1 hI.1.2.1 ⟨fun c1 => ?_, fun c1 => ?_⟩)) <;> refine CE_of rfl (b_M_good_0 (c_M_isGood hM.1 hI.1.1 ⟨fun c2 => ?_, fun c2 => ?_⟩))
  · exact k _ M rfl h
  · exact absurd c1 c2
  · exact absurd c2 c1
  · exact k _ M rfl h
theorem op_ticks (h : RX M) (k : ∀ r M', M' 1000 = M 1000 → RX M' → Q r r M') : CE E (d + 4) n_D_ticks [.inr 0] M (fun r1 M1 => CE E (d + 4) n_M_ticks [.inr 31] M1 (fun r2 M2 => Q r1 r2 M2)) := by
  obtain ⟨g, hr, ov, i, t, stp, rs, hI, hM, hD⟩ := id h
  refine CE_of rfl (b_D_ticks_0 (c_K_isGood hD.1 hI.1.1 hI.1.2.1 ⟨fun c1 => ?_, fun c1 => c_K_reckon hD.1 hI.1.1 hI.1.2.1 (fun M1 s1 => ?_)⟩))
  · refine CE_of rfl (b_M_ticks_0 (c_M_isGood hM.1 hI.1.1 ⟨fun c2 => absurd c1 c2, fun c2 => k _ M rfl h⟩))
  · have hM1 : RelM g hr ov i t stp rs M1 := hM.fr (fun k' a b _ _ _ _ _ => s1 k' (by omega) (by omega))
    have hD1 : RelD g hr ov i t stp rs M1 := hD.fr (fun k' a b c => s1 k' (by omega) (by omega))
    refine CE_of rfl (b_M_ticks_0 (c_M_isGood hM1.1 hI.1.1 ⟨fun c2 => c_M_planTicks hM1.1 hI.1.1 (fun M2 s2 => ?_), fun c2 => absurd c2 c1⟩))
    have e0 : ∀ k', mset (mset (mset (mset M2 31 21 (M1 31 21)) 31 22 (M1 31 22)) 31 23 (M1 31 23)) 31 24 (M1 31 24) k' = M1 k' := by
      intro k'
      by_cases hk' : k' = 31
      · subst hk'
        funext j
        simp only [mset_eq, upd]
        split
        · next e => rw [e]
        · split
          · next e => rw [e]
          · split
            · next e => rw [e]
            · split
              · next e => rw [e]
              · exact s2.2 j (by omega)
      · rw [mset_ne _ _ _ hk', mset_ne _ _ _ hk', mset_ne _ _ _ hk', mset_ne _ _ _ hk']
        exact s2.1 k' hk'
    refine k _ _ (by rw [e0]; exact s1 1000 (by omega) (by omega)) ⟨g, hr, ov, i, t, stp, rs, hI, hM1.fr (fun k' _ _ _ _ _ _ _ => e0 k'), hD1.fr (fun k' _ _ _ => e0 k')⟩
theorem op_plan {X : Int32} (h : RX M) (k : ∀ r M', M' 1000 = M 1000 → RX M' → Q r r M') : CE E (d + 1) n_D_plan [.inr 0, .inl X] M (fun r1 M1 => CE E (d + 1) n_M_plan [.inr 31, .inl X] M1 (fun r2 M2 => Q r1 r2 M2)) := by
  obtain ⟨g, hr, ov, i, t, stp, rs, hI, hM, hD⟩ := id h
  have hn := hI.1.1.2.1
  have e15 : M 15 1 = nI (pln g) := hD.1.2.2.2.2.1
  have e16 : M 31 16 = nI (pln g) := hM.1.2.2.2 16 (by omega) (by omega)
  refine CE_of rfl (b_D_plan_0 _ ?_)
  rw [e15]
  refine c_D_isWithin ⟨fun c1 => ?_, fun c1 => ?_⟩
  · refine CE_of rfl (b_M_plan_0 _ ?_)
    rw [e16]
    exact c_M_lies ⟨fun c2 => k _ M rfl h, fun c2 => absurd c1 c2⟩
  · obtain ⟨p, hp, ep⟩ := place_rng hn (b2_nz.mp c1)
    have v : vp_in X 10 := by rw [ep]; exact vp_in_nI (by omega) (by omega)
    refine ⟨v, CE_of rfl (b_M_plan_0 _ ?_)⟩
    rw [e16]
    refine c_M_lies ⟨fun c2 => absurd c2 c1, fun c2 => ⟨v, ?_⟩⟩
    have e1 : M 16 (Int32.toNatClampNeg X) = M 42 (Int32.toNatClampNeg X) := by
      rw [ep, nI_clamp (by omega), hD.1.code hp]
      exact (hM.1.at 42 (by omega) (by omega) (by omega) p).symm
    rw [e1]
    exact k _ M rfl h
theorem op_slot {X Y : Int32} (h : RX M) (k : ∀ r M', M' 1000 = M 1000 → RX M' → Q r r M') : CE E (d + 1) n_D_slot [.inr 0, .inl X, .inl Y] M (fun r1 M1 => CE E (d + 1) n_M_slot [.inr 31, .inl X, .inl Y] M1 (fun r2 M2 => Q r1 r2 M2)) := by
  obtain ⟨g, hr, ov, i, t, stp, rs, hI, hM, hD⟩ := id h
  refine CE_of rfl (b_D_slot_0 _ _ (c_D_isWithin ⟨fun c1 => ?_, fun c1 => ?_⟩))
  · obtain ⟨s, hs, es⟩ := within_rng (m := 7) (by omega) (b2_nz.mp c1)
    have v : vp_in X 8 := by rw [es]; exact vp_in_nI (by omega) (by omega)
    have e1 : M 12 (Int32.toNatClampNeg X) = M 40 (Int32.toNatClampNeg X) := by
      rw [es, nI_clamp (by omega), (hD.1.2.2.1 s (by omega)).1]
      exact (hM.1.2.1 s).symm
    have e2 : M 13 (Int32.toNatClampNeg X) = M 41 (Int32.toNatClampNeg X) := by
      rw [es, nI_clamp (by omega), (hD.1.2.2.1 s (by omega)).2]
      exact (hM.1.at 41 (by omega) (by omega) (by omega) s).symm
    refine ⟨fun c2 => ⟨v, CE_of rfl (b_M_slot_0 _ _ (c_M_lies ⟨fun c3 => ⟨fun c4 => absurd c2 c4, fun c4 => ⟨v, ?_⟩⟩, fun c3 => absurd c3 c1⟩))⟩, fun c2 => ⟨fun c5 => ⟨v, CE_of rfl (b_M_slot_0 _ _ (c_M_lies ⟨fun c3 => ⟨fun c4 => ⟨fun c6 => absurd c5 c6, fun c6 => ⟨v, ?_⟩⟩, fun c4 => absurd c4 c2⟩, fun c3 => absurd c3 c1⟩))⟩, fun c5 => CE_of rfl (b_M_slot_0 _ _ (c_M_lies ⟨fun c3 => ⟨fun c4 => ⟨fun c6 => ?_, fun c6 => absurd c6 c5⟩, fun c4 => absurd c4 c2⟩, fun c3 => absurd c3 c1⟩))⟩⟩
    · rw [e1]; exact k _ M rfl h
    · rw [e2]; exact k _ M rfl h
    · exact k _ M rfl h
  · exact CE_of rfl (b_M_slot_0 _ _ (c_M_lies ⟨fun c2 => absurd c1 c2, fun c2 => k _ M rfl h⟩))
theorem op_state {X : Int32} (h : RX M) (k : ∀ r M', M' 1000 = M 1000 → RX M' → Q r r M') : CE E (d + 2) n_D_state [.inr 0, .inl X] M (fun r1 M1 => CE E (d + 2) n_M_state [.inr 31, .inl X] M1 (fun r2 M2 => Q r1 r2 M2)) := by
  obtain ⟨g, hr, ov, i, t, stp, rs, hI, hM, hD⟩ := id h
  have hp10 := hI.1.1.1
  have h7 : M 26 7 = nI hr := hD.2.2.1
  have h30 : M 31 30 = nI hr := hM.2.2.2.1.1
  have hhr := hI.2.2.2.1.1
  refine CE_of rfl (b_D_state_0 _ (c_D_isPlace hD.1 ⟨fun c1 => ?_, fun c1 => ?_⟩))
  · refine CE_of rfl (b_M_state_0 _ ⟨fun c2 => k _ M rfl h, fun c2 => c_M_isPlace hM.1 ⟨fun c3 => k _ M rfl h, fun c3 => absurd c1 c3⟩⟩)
  · obtain ⟨p, hp, ep⟩ := place_rng hp10 (b2_nz.mp c1)
    subst ep
    have v : vp_in (nI p) 10 := vp_in_nI (by omega) (by omega)
    refine ⟨fun c2 => ?_, fun c2 => ?_⟩
    · have c2' : ¬ M 31 30 = 0 := by rw [h30, ← h7]; exact c2
      have hne : hr ≠ 0 := fun z => c2 (by rw [h7, z]; rfl)
      obtain ⟨-, ⟨b14, b15, -⟩, -⟩ := hD.2.2.2.1 hne
      have hs := hI.2.2.1.2 p
      have l1 := bitsOf_lt (fun p => rs.1 p == 1) 10
      have l2 := bitsOf_lt (fun p => rs.1 p == 2) 10
      have t1 : ∀ f : Nat → Bool, (bitsOf f 10).testBit p = f p := fun f => by
        rw [bitsOf_bit]
        have : decide (p < 10) = true := by simp; omega
        rw [this, Bool.true_and]
      have fin : ∀ x : Int32, x = nI (rs.1 p) → CE E (d + 2) n_M_state [.inr 31, .inl (nI p)] M (fun r2 M2 => Q x r2 M2) := by
        intro x hx
        refine CE_of rfl (b_M_state_0 _ ⟨fun c3 => absurd c3 c2', fun _ => c_M_isPlace hM.1 ⟨fun c3 => absurd c3 c1, fun _ => ⟨v, ?_⟩⟩⟩)
        rw [nI_clamp (by omega), hM.2.2.1 p, hx]
        exact k _ M rfl h
      rw [b14]
      refine c_D_hasBit (by omega) (by omega) ?_
      rw [t1]
      refine ⟨fun c3 => ?_, fun c3 => ?_⟩
      · rw [b15]
        refine c_D_hasBit (by omega) (by omega) ?_
        rw [t1]
        rw [b2_z] at c3
        have c3 : ¬ rs.1 p = 1 := by simpa using c3
        refine ⟨fun c4 => ?_, fun c4 => ?_⟩
        · rw [b2_z] at c4
          have c4 : ¬ rs.1 p = 2 := by simpa using c4
          exact fin 0 (by rw [show rs.1 p = 0 by omega]; rfl)
        · rw [b2_nz, beq_iff_eq] at c4
          exact fin 2 (by rw [c4]; rfl)
      · rw [b2_nz, beq_iff_eq] at c3
        exact fin 1 (by rw [c3]; rfl)
    · have c2' : M 31 30 = 0 := by rw [h30, ← h7]; exact c2
      exact CE_of rfl (b_M_state_0 _ ⟨fun c3 => k _ M rfl h, fun c3 => absurd c2' c3⟩)
end RR
