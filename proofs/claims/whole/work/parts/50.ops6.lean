/-! Operations: then. -/
theorem inP_iff {g : GS} {q : Nat} : inP g q = true ↔ ∃ i, i < pln g ∧ plc g i = q := by
  unfold inP
  rw [decide_eq_true_eq]
  constructor
  · intro h
    have := fst_yes (fun i => plc g i == q) (pln g) 0 (by omega)
    exact ⟨_, h, by simpa using this⟩
  · rintro ⟨i, h1, h2⟩
    apply Classical.byContradiction
    intro hn
    have := fst_no (fun i => plc g i == q) (pln g) 0 i (by omega) (by omega)
    simp [h2] at this
def cdN (z : Bool) (n p : Nat) : Nat := if z = true ∨ n = 0 then p + 16 else p
def gT (g : GS) (z : Bool) (p : Nat) : GS := g31 (sG g 42 (fs (g 42) (pln g) (cdN z (pln g) p))) 16 (pln g + 1)
theorem RC.s42 {g : GS} {M : Mem} (h : RC g M) (j v : Nat) : RC (sG g 42 (fs (g 42) j v)) (mset M 42 j (nI v)) := by
  obtain ⟨r1, r2, r3, r4⟩ := h
  refine ⟨fun k a b c j' => ?_, fun j' => ?_, ?_, fun j' a b => ?_⟩
  · by_cases hk : k = 42
    · subst hk
      rw [mset_eq]
      exact upd_fs (r1 42 a b c) j'
    · rw [mset_ne _ _ _ hk, r1 k a b c j']
      have : sG g 42 (fs (g 42) j v) k = g k := if_neg hk
      rw [this]
  · rw [mset_ne _ _ _ (by omega)]; exact r2 j'
  · rw [mset_ne _ _ _ (by omega)]; exact r3
  · rw [mset_ne _ _ _ (by omega)]; exact r4 j' a b
theorem then_lt {g : GS} (hW : Wk g) (hp : Wp g) {p : Nat} (h1 : p < pls g) (h2 : inP g p = false) : pln g + 1 ≤ pls g := by
  have hno : ∀ i, i < pln g → plc g i ≠ p := fun i hi e => by
    have : inP g p = true := inP_iff.mpr ⟨i, hi, e⟩
    rw [this] at h2
    exact absurd h2 (by decide)
  refine fb_holes (pls g) (pln g + 1) (fun i => if i < pln g then plc g i else p) (fun i hi => ?_) (fun i j hij hj => ?_)
  · show (if i < pln g then plc g i else p) < pls g
    split
    · next c => exact (hW.2.2.2.2.2.2.2.2 i c).2
    · exact h1
  · show (if i < pln g then plc g i else p) ≠ (if j < pln g then plc g j else p)
    rw [if_pos (by omega)]
    split
    · next c => exact hp.1 i j hij c
    · exact hno i (by omega)
theorem cd_mod {z : Bool} {n p : Nat} (hp : p < 16) : cdN z n p % 16 = p ∧ cdN z n p < 32 := by
  unfold cdN
  split <;> omega
theorem gT_wf {g : GS} (hW : Wk g) (hp : Wp g) {z : Bool} {p : Nat} (h1 : p < pls g) (h2 : inP g p = false) : Wk (gT g z p) ∧ Wp (gT g z p) := by
  have hlt := then_lt hW hp h1 h2
  have hp10 := hW.1
  have hc := cd_mod (z := z) (n := pln g) (p := p) (by omega)
  have hno : ∀ i, i < pln g → plc g i ≠ p := fun i hi e => by
    have : inP g p = true := inP_iff.mpr ⟨i, hi, e⟩
    rw [this] at h2
    exact absurd h2 (by decide)
  have e42 : ∀ i, (gT g z p) 42 i = if i = pln g then cdN z (pln g) p else g 42 i := fun i => rfl
  have epl : ∀ i, plc (gT g z p) i = if i = pln g then p else plc g i := by
    intro i
    unfold plc
    rw [e42]
    split
    · exact hc.1
    · rfl
  refine ⟨?_, fun i j hij hj => ?_, fun _ => ?_, hp.2.2⟩
  · obtain ⟨w1, w2, w3, w4, w5, w6, w7, w8, w9⟩ := hW
    refine ⟨w1, by show pln g + 1 ≤ 10; omega, w3, w4, w5, w6, w7, w8, fun i hi => ?_⟩
    have hi : i < pln g + 1 := hi
    rw [epl, e42]
    show _ ∧ _ < pls g
    split
    · exact ⟨hc.2, h1⟩
    · exact w9 i (by omega)
  · have hj : j < pln g + 1 := hj
    rw [epl, epl, if_neg (by omega)]
    split
    · exact hno i (by omega)
    · exact hp.1 i j hij (by omega)
  · unfold bgn
    rw [e42]
    split
    · next e =>
      unfold cdN
      rw [if_pos (Or.inr e.symm)]
      simp
    · next e => exact hp.2.1 (by omega)
section OW
variable {E : Env0} {d : Nat} {M : Mem} {Q : Int32 → Int32 → Mem → Prop}
theorem op_then {X1 X2 : Int32} (hz : Z01 X2) (h : RX M) (kk : ∀ r M', M' 1000 = M 1000 → RX M' → Q r r M') : CE E (d + 2) n_D_then [.inr 0, .inl X1, .inl X2] M (fun r1 M1 => CE E (d + 2) n_M_then [.inr 31, .inl X1, .inl X2] M1 (fun r2 M2 => Q r1 r2 M2)) := by
  obtain ⟨g, hr, ov, i, t, stp, rs, hI, hM, hD⟩ := id h
  obtain ⟨⟨hW, hp, hL, hRg⟩, ⟨h19, hmis⟩, ⟨hpa, hst⟩, ⟨hhr, hov⟩, hrb, hri, hout⟩ := id hI
  have hp10 := hW.1
  have hn10 := hW.2.1
  obtain ⟨z, ez⟩ : ∃ z : Bool, X2 = b2 z := by
    rcases hz with q | q
    · exact ⟨false, q⟩
    · exact ⟨true, q⟩
  subst ez
  -- the reference's search
  have L12 : ∀ (M1 : Mem) (p : Nat), RC g M1 → p < pls g → (inP g p = false → pln g + 1 ≤ 10) → ∀ (n j : Nat), j + n = pln g → (∀ i, i < j → plc g i ≠ p) → ∀ (P : Int32 → Mem → Prop), (inP g p = true → P (-1) M1) → (inP g p = false → P (nI (pln g + 1)) (mset (mset (mset M1 42 (pln g) (nI (cdN z (pln g) p))) 31 16 (nI (pln g + 1))) 31 30 0)) → JE E (d + 2) n_M_then 12 [some (.inr 31), some (.inl (nI p)), some (.inl (b2 z)), some (.inl (nI j))] [] M1 P := by
    intro M1 p hC hpp hlt n
    have h16 : M1 31 16 = nI (pln g) := hC.2.2.2 16 (by omega) (by omega)
    have m42 : ∀ j, M1 42 j = nI (g 42 j) := fun j => hC.at 42 (by omega) (by omega) (by omega) j
    induction n with
    | zero =>
      intro j hj hno P k0 k1
      have hin : inP g p = false := by
        cases hc : inP g p
        · rfl
        · obtain ⟨i, a, b⟩ := inP_iff.mp hc
          exact absurd b (hno i (by omega))
      have k1 := k1 hin
      have hl := hlt hin
      have v : vp_in (nI (pln g)) 10 := vp_in_nI (by omega) (by omega)
      refine b_M_then_12 _ _ _ ⟨fun _ => ?_, fun c1 => absurd (by rw [h16]; exact nI_le (by omega) (by omega)) c1⟩
      rw [h16, nI_1, nI_clamp (by omega), zero_nI, nI_eq (by omega) (by omega), ← zero_nI]
      have e16 : nI p + 16 = nI (p + 16) := by rw [show (16 : Int32) = nI 16 from rfl, nI_add]
      have e0 : nI p + 0 = nI p := Int32.add_zero _
      rw [e16, e0]
      refine ⟨fun c2 => ⟨v, z01_0, ?_⟩, fun c2 => ⟨fun c3 => ⟨v, z01_0, ?_⟩, fun c3 => ⟨v, z01_0, ?_⟩⟩⟩
      · rw [b2_nz] at c2
        unfold cdN at k1
        rw [if_pos (Or.inl c2)] at k1
        exact k1
      · rw [b2_z] at c2
        unfold cdN at k1
        rw [if_neg (by rw [c2]; simp; exact c3)] at k1
        exact k1
      · unfold cdN at k1
        rw [if_pos (Or.inr c3)] at k1
        exact k1
    | succ n ih =>
      intro j hj hno P k0 k1
      have hpj := hW.2.2.2.2.2.2.2.2 j (by omega)
      refine b_M_then_12 _ _ _ ⟨fun c1 => absurd c1 (by rw [h16]; exact nI_ge (by omega) (by omega)), fun _ => ?_⟩
      simp (disch := omega) only [nI_clamp, m42, rem16]
      rw [show g 42 j % 16 = plc g j from rfl, nI_eq (by omega) (by omega), nI_1]
      refine ⟨vp_in_nI (by omega) (by omega), nz16, fun c2 => ih (j + 1) (by omega) (fun i hi => ?_) P k0 k1, fun c2 => k0 (inP_iff.mpr ⟨j, by omega, c2⟩)⟩
      by_cases e : i = j
      · rw [e]; exact c2
      · exact hno i (by omega)
  refine CE_of rfl (b_D_then_0 _ _ (c_D_isPlace hD.1 ⟨fun c1 => ?_, fun c1 => ?_⟩))
  · exact CE_of rfl (b_M_then_0 _ _ (c_M_isPlace hM.1 ⟨fun c2 => absurd c1 c2, fun _ => kk _ M rfl h⟩))
  · obtain ⟨p, hpp, ep⟩ := place_rng hp10 (b2_nz.mp c1)
    subst ep
    have hlb := bitsOf_lt (inP g) 10
    have md : ∀ (M1 : Mem) (P : Int32 → Mem → Prop), RC g M1 → JE E (d + 2) n_M_then 12 [some (.inr 31), some (.inl (nI p)), some (.inl (b2 z)), some (.inl (nI 0))] [] M1 P → CE E (d + 2) n_M_then [.inr 31, .inl (nI p), .inl (b2 z)] M1 P := fun M1 P hC hj => CE_of rfl (b_M_then_0 _ _ (c_M_isPlace hC ⟨fun _ => hj, fun z => absurd z c1⟩))
    have tb : (bitsOf (inP g) 10).testBit p = inP g p := by
      rw [bitsOf_bit]
      have : decide (p < 10) = true := by simp; omega
      rw [this, Bool.true_and]
    have hlt : inP g p = false → pln g + 1 ≤ 10 := fun hin => by
      have := then_lt hW hp hpp hin
      omega
    refine c_R_holds (by omega) (by omega) hD.1.2.2.2.2.2.1 ?_
    rw [tb]
    refine ⟨fun c2 => ?_, fun c2 => ?_⟩
    · rw [b2_z] at c2
      have hl := hlt c2
      obtain ⟨wT, pT⟩ := gT_wf hW hp (z := z) hpp c2
      refine c_R_append (n := pln g) (by omega) (by omega) hD.1.2.2.2.2.1 hD.1.2.2.2.2.2.1 ⟨z01_0, ?_⟩
      have e1 : mset (mset (mset M 16 (pln g) (nI (if z = true ∨ pln g = 0 then p + 16 else p))) 15 2 (nI (bitsOf (inP g) 10 ||| 2 ^ p))) 15 1 (nI (pln g + 1)) 15 1 = nI (pln g + 1) := by
        rw [mset_eq]; exact if_pos rfl
      rw [e1]
      have nd : ∀ k1, k1 ≠ 15 → k1 ≠ 16 → k1 ≠ 26 → mset (mset (mset (mset M 16 (pln g) (nI (if z = true ∨ pln g = 0 then p + 16 else p))) 15 2 (nI (bitsOf (inP g) 10 ||| 2 ^ p))) 15 1 (nI (pln g + 1))) 26 7 0 k1 = M k1 := fun k1 x1 x2 x3 => by rw [mset_ne _ _ _ x3, mset_ne _ _ _ x1, mset_ne _ _ _ x1, mset_ne _ _ _ x2]
      have d26 : ∀ j, mset (mset (mset (mset M 16 (pln g) (nI (if z = true ∨ pln g = 0 then p + 16 else p))) 15 2 (nI (bitsOf (inP g) 10 ||| 2 ^ p))) 15 1 (nI (pln g + 1))) 26 7 0 26 j = upd (M 26) 7 0 j := fun j => by rw [mset_eq, mset_ne _ _ _ (by omega), mset_ne _ _ _ (by omega), mset_ne _ _ _ (by omega)]
      have d151 : mset (mset (mset (mset M 16 (pln g) (nI (if z = true ∨ pln g = 0 then p + 16 else p))) 15 2 (nI (bitsOf (inP g) 10 ||| 2 ^ p))) 15 1 (nI (pln g + 1))) 26 7 0 15 1 = nI (pln g + 1) := by
        rw [mset_ne _ _ _ (by omega), mset_eq]; exact if_pos rfl
      have d152 : mset (mset (mset (mset M 16 (pln g) (nI (if z = true ∨ pln g = 0 then p + 16 else p))) 15 2 (nI (bitsOf (inP g) 10 ||| 2 ^ p))) 15 1 (nI (pln g + 1))) 26 7 0 15 2 = nI (bitsOf (inP g) 10 ||| 2 ^ p) := by
        rw [mset_ne _ _ _ (by omega), mset_eq, mset_eq]; rfl
      have d16 : mset (mset (mset (mset M 16 (pln g) (nI (if z = true ∨ pln g = 0 then p + 16 else p))) 15 2 (nI (bitsOf (inP g) 10 ||| 2 ^ p))) 15 1 (nI (pln g + 1))) 26 7 0 16 = upd (M 16) (pln g) (nI (cdN z (pln g) p)) := by
        rw [mset_ne _ _ _ (by omega), mset_ne _ _ _ (by omega), mset_ne _ _ _ (by omega), mset_eq]; rfl
      have hM1 : RelM g hr ov i t stp rs (mset (mset (mset (mset M 16 (pln g) (nI (if z = true ∨ pln g = 0 then p + 16 else p))) 15 2 (nI (bitsOf (inP g) 10 ||| 2 ^ p))) 15 1 (nI (pln g + 1))) 26 7 0) := hM.fr (fun k1 a b _ _ _ _ _ => nd k1 (by omega) (by omega) (by omega))
      generalize mset (mset (mset (mset M 16 (pln g) (nI (if z = true ∨ pln g = 0 then p + 16 else p))) 15 2 (nI (bitsOf (inP g) 10 ||| 2 ^ p))) 15 1 (nI (pln g + 1))) 26 7 0 = M1 at *
      refine md _ _ hM1.1 (L12 M1 p hM1.1 hpp hlt (pln g) 0 (by omega) (fun i hi => by omega) _ (fun hin => by rw [hin] at c2; exact absurd c2 (by decide)) (fun _ => ?_))
      obtain ⟨hC, hX, h48, hs, hMr, hK⟩ := hM1
      have hR2 : RC (gT g z p) (mset (mset (mset M1 42 (pln g) (nI (cdN z (pln g) p))) 31 16 (nI (pln g + 1))) 31 30 0) := ((hC.s42 (pln g) (cdN z (pln g) p)).j31 16 (pln g + 1) (by omega)).o31 30 0 (by omega) (by omega)
      have ne : ∀ k1, k1 ≠ 31 → k1 ≠ 42 → mset (mset (mset M1 42 (pln g) (nI (cdN z (pln g) p))) 31 16 (nI (pln g + 1))) 31 30 0 k1 = M1 k1 := fun k1 x1 x2 => by rw [mset_ne _ _ _ x1, mset_ne _ _ _ x1, mset_ne _ _ _ x2]
      have n31 : ∀ j, j ≠ 16 → j ≠ 30 → mset (mset (mset M1 42 (pln g) (nI (cdN z (pln g) p))) 31 16 (nI (pln g + 1))) 31 30 0 31 j = M1 31 j := fun j x1 x2 => by
        rw [mset_eq, mset_eq, mset_ne _ _ _ (by omega)]
        unfold upd
        rw [if_neg x2, if_neg x1]
      have f30 : mset (mset (mset M1 42 (pln g) (nI (cdN z (pln g) p))) 31 16 (nI (pln g + 1))) 31 30 0 31 30 = 0 := by rw [mset_eq]; exact if_pos rfl
      generalize mset (mset (mset M1 42 (pln g) (nI (cdN z (pln g) p))) 31 16 (nI (pln g + 1))) 31 30 0 = M2 at *
      refine kk _ M2 (by rw [ne 1000 (by omega) (by omega)]; exact nd 1000 (by omega) (by omega) (by omega)) ?_
      have hve : VE g (gT g z p) := ⟨rfl, fun j x1 x2 => fs_ne _ _ (by omega), fun _ _ => ⟨rfl, rfl, rfl, rfl, rfl⟩, fun _ _ _ _ => rfl⟩
      have hDT : DC (gT g z p) M1 := by
        obtain ⟨hK, hP, hS, hG, hR⟩ := hD.1
        refine ⟨?_, ?_, ?_, ?_, d151, ?_, fun j hj => ?_⟩
        · unfold DK at *
          simp only [nd 2 (by omega) (by omega) (by omega), nd 3 (by omega) (by omega) (by omega), nd 4 (by omega) (by omega) (by omega), nd 5 (by omega) (by omega) (by omega)]
          exact hK
        · unfold DP at *
          simp only [nd 1 (by omega) (by omega) (by omega), nd 6 (by omega) (by omega) (by omega), nd 7 (by omega) (by omega) (by omega), nd 8 (by omega) (by omega) (by omega), nd 9 (by omega) (by omega) (by omega), nd 10 (by omega) (by omega) (by omega)]
          exact hP
        · unfold DS at *
          rw [nd 12 (by omega) (by omega) (by omega), nd 13 (by omega) (by omega) (by omega)]; exact hS
        · unfold DG at *
          rw [nd 14 (by omega) (by omega) (by omega)]; exact hG
        · rw [d152]
          congr 1
          refine (bits_set (by omega) (fun q => ?_)).symm
          rw [Bool.eq_iff_iff, Bool.or_eq_true, decide_eq_true_eq, inP_iff, inP_iff]
          have epl : ∀ j, plc (gT g z p) j = if j = pln g then p else plc g j := by
            intro j
            unfold plc
            show fs (g 42) (pln g) (cdN z (pln g) p) j % 16 = _
            unfold fs
            split
            · exact (cd_mod (by omega)).1
            · rfl
          constructor
          · rintro ⟨j, a, b⟩
            have a : j < pln g + 1 := a
            rw [epl] at b
            by_cases e : j = pln g
            · rw [if_pos e] at b; exact Or.inr b.symm
            · rw [if_neg e] at b; exact Or.inl ⟨j, by omega, b⟩
          · rintro (⟨j, a, b⟩ | e)
            · exact ⟨j, by show j < pln g + 1; omega, by rw [epl, if_neg (by omega)]; exact b⟩
            · exact ⟨pln g, by show pln g < pln g + 1; omega, by rw [epl, if_pos rfl]; exact e.symm⟩
        · have hj : j < pln g + 1 := hj
          rw [d16]
          show upd (M 16) (pln g) (nI (cdN z (pln g) p)) j = nI (fs (g 42) (pln g) (cdN z (pln g) p) j)
          unfold upd fs
          split
          · rfl
          · exact hR.2.2 j (by omega)
      refine RX.mk0 (g := gT g z p) (ov := ov) (i := i) (t := t) (st := rs.1) ⟨wT, pT, hL, hRg⟩ ⟨h19, hmis⟩ hst hout (fun q => ?_) hov hR2 ⟨fun n => ?_, ?_⟩ f30 ?_ ?_ ?_ ?_ (hDT.fr (fun k1 a b => ne k1 (by omega) (by omega))) ⟨fun n hnn => ?_, ?_⟩ ?_
      · rw [ne 48 (by omega) (by omega)]; exact h48 q
      · rw [ne 43 (by omega) (by omega)]; exact hX.1 n
      · rw [n31 19 (by omega) (by omega)]; exact hX.2
      · rw [n31 31 (by omega) (by omega)]; exact hs.2.1
      · rw [n31 32 (by omega) (by omega)]; exact hs.2.2.1
      · rw [n31 35 (by omega) (by omega)]; exact hs.2.2.2
      · exact hK.view hve (n31 28 (by omega) (by omega)) (n31 29 (by omega) (by omega)) (ne 47 (by omega) (by omega))
      · rw [ne 28 (by omega) (by omega), nd 28 (by omega) (by omega) (by omega)]; exact hD.2.1.1 n hnn
      · rw [ne 26 (by omega) (by omega), d26 6]; exact hD.2.1.2
      · rw [ne 26 (by omega) (by omega), d26 7]; exact if_pos rfl
    · rw [b2_nz] at c2
      exact md _ _ hM.1 (L12 M p hM.1 hpp hlt (pln g) 0 (by omega) (fun i hi => by omega) _ (fun _ => kk _ M rfl h) (fun hin => by rw [hin] at c2; exact absurd c2 (by decide)))
end OW
