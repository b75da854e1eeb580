/-! Operations: best. -/
theorem LX_anti {n : Nat} {c c' : Nat → Nat} (h : LX n c c') (h' : LX n c' c) : ∀ j, j < n → c j = c' j := by
  obtain ⟨p, p2, p3, p4⟩ := h
  obtain ⟨r, r2, r3, r4⟩ := h'
  intro j hj
  rcases Nat.lt_trichotomy p r with z | z | z
  · have := r3 p z
    rcases p4 with p4 | p4 <;> omega
  · subst z
    rcases p4 with p4 | p4
    · exact p3 j (by omega)
    · rcases r4 with r4 | r4
      · exact p3 j (by omega)
      · omega
  · have := p3 r z
    rcases r4 with r4 | r4 <;> omega
theorem VE.gc {g : GS} {c : Nat → Nat} : VE g (gC g c) := ⟨rfl, fun j a b => fs_ne _ _ (by omega), fun _ _ => ⟨rfl, rfl, rfl, rfl, rfl⟩, fun _ _ _ _ => rfl⟩
section OB
variable {E : Env0} {d : Nat} {M : Mem} {Q : Int32 → Int32 → Mem → Prop}
theorem op_best (h : RX M) (kk : ∀ r M', M' 1000 = M 1000 → RX M' → Q r r M') : CE E (d + 9) n_D_best [.inr 0] M (fun r1 M1 => CE E (d + 9) n_M_best [.inr 31] M1 (fun r2 M2 => Q r1 r2 M2)) := by
  obtain ⟨g, hr, ov, i, t, stp, rs, hI, hM, hD⟩ := id h
  obtain ⟨⟨hW, hp, hL, hRg⟩, ⟨h19, hmis⟩, ⟨hpa, hst⟩, ⟨hhr, hov⟩, hrb, hri, hout⟩ := id hI
  have hp10 := hW.1
  refine CE_of rfl (b_D_best_0 (c_F_find hD.1 hW hRg (fun M1 hno e1 => ⟨fun _ => ?_, fun z => absurd rfl z⟩) (fun R M1 hn1 hp7 hsl e1 e20 hB hRT h7 => ?_)))
  · -- there is none
    have hM1 : RelM g hr ov i t stp rs M1 := hM.fr (fun k1 a b _ _ _ _ _ => e1 k1 (by omega))
    have hD1 : RelD g hr ov i t stp rs M1 := hD.fr (fun k1 a b c => e1 k1 (by omega))
    refine c_M_best hM1.1 hW hM1.2.2.2.2.2 (fun M2 _ f1 f2 hK2 => ?_) (fun M2 l hn1 hp7 hl hBS => ?_)
    · refine kk _ M2 (by rw [f1 1000 (by omega) (by omega) (by omega) (by omega)]; exact e1 1000 (by omega)) ⟨g, hr, ov, i, t, stp, rs, hI, ?_, hD1.fr (fun k1 a b c => f1 k1 (by omega) (by omega) (by omega) (by omega))⟩
      obtain ⟨hC, hX, h48, hs, hMr, hK⟩ := hM1
      refine ⟨hC.frM (fun k1 a b => f1 k1 (by omega) (by omega) (by omega) (by omega)) (fun j hj => f2 j (by omega) (by omega)), ⟨fun n => ?_, ?_⟩, fun p => ?_, ⟨?_, ?_, ?_, ?_⟩, fun z => ?_, hK2⟩
      · rw [f1 43 (by omega) (by omega) (by omega) (by omega)]; exact hX.1 n
      · rw [f2 19 (by omega) (by omega)]; exact hX.2
      · rw [f1 48 (by omega) (by omega) (by omega) (by omega)]; exact h48 p
      · rw [f2 30 (by omega) (by omega)]; exact hs.1
      · rw [f2 31 (by omega) (by omega)]; exact hs.2.1
      · rw [f2 32 (by omega) (by omega)]; exact hs.2.2.1
      · rw [f2 35 (by omega) (by omega)]; exact hs.2.2.2
      · have := hMr z
        unfold HM at *
        rw [f2 21 (by omega) (by omega), f2 22 (by omega) (by omega), f2 23 (by omega) (by omega), f2 24 (by omega) (by omega), f2 33 (by omega) (by omega), f2 34 (by omega) (by omega), f2 36 (by omega) (by omega)]
        exact this
    · exfalso
      rcases hno with z | z | ⟨p, z1, z2⟩
      · omega
      · omega
      · rcases hBS with ⟨y, -⟩ | ⟨c, c1, c2, -⟩
        · exact hl y
        · obtain ⟨j, j1, j2⟩ := fb_onto (n := pls g) (f := fun j => c j % 16) (fun j hj => (c1.1 j hj).2) c1.2.1 z1
          have j2 : c j % 16 = p := j2
          unfold gdB at c2
          have e0 : pln (gC g c) = pls g := rfl
          rw [e0, gdF_split, Bool.and_eq_true, Bool.and_eq_true, Bool.and_eq_true, alB_iff, alB_iff] at c2
          have := c2.2.2.1 j (by omega) (by omega)
          rw [decide_eq_true_eq] at this
          have : slO g (g 38 (c j % 16)) < 8 := this
          rw [j2, z2] at this
          omega
  · -- the best plan
    have hz4 : nzs g ≤ 4 := hW.2.2.2.2.2.2.1.2
    have hrc0 : rcB g 0 := fun p _ z => by simp at z
    obtain ⟨c, o1, -⟩ := hRT 0 (Nat.two_pow_pos _) hrc0 7 (Or.inl ⟨rfl, rfl⟩)
    have epc : pc 0 10 = 0 := by decide
    rw [epc, Nat.mul_zero, Nat.zero_add] at o1
    have hv : R 7 / 4096 = cst g c 0 7 := o1.2.1
    have ho := o1
    rw [hv] at ho
    have hne : ¬ nI (R 7 / 4096) = (-1 : Int32) := nI_neg1 _ (by omega)
    obtain ⟨hvc, hgd⟩ := (SG_good hp hn1 hsl).mp o1.1
    have htk : ∀ c', SG g 0 0 c' → tkN (gC g c') = cst g c' 0 7 := fun c' hc' => by
      have := tk_CS hW hp7 hsl (pls g) 0 0 (0, 0, 0, 0) hc'
      unfold tkN cst
      have e0 : pln (gC g c') = pls g := rfl
      rw [e0, this, Nat.sub_zero]
      show 0 + _ = _
      rw [Nat.zero_add]
      rfl
    refine ⟨fun z => absurd z hne, fun _ => c_F_writeTo hp7 hn1 hz4 e20 hB hRT ho (fun M2 e2 hRW => ⟨z01_0, ?_⟩)⟩
    have nd : ∀ k1, (k1 < 15 ∨ (16 < k1 ∧ k1 < 20) ∨ 25 < k1) → k1 ≠ 26 → mset M2 26 7 0 k1 = M k1 := fun k1 x1 x2 => by
      rw [mset_ne _ _ _ x2, e2 k1 (by omega) (by omega)]; exact e1 k1 (by omega)
    have d26 : ∀ j, mset M2 26 7 0 26 j = upd (M 26) 7 0 j := fun j => by
      rw [mset_eq, e2 26 (by omega) (by omega), e1 26 (by omega)]
    have d15 : mset M2 26 7 0 15 = M2 15 := mset_ne _ _ _ (by omega)
    have d16 : mset M2 26 7 0 16 = M2 16 := mset_ne _ _ _ (by omega)
    have hM3 : RelM g hr ov i t stp rs (mset M2 26 7 0) := hM.fr (fun k1 a b _ _ _ _ _ => nd k1 (by omega) (by omega))
    generalize mset M2 26 7 0 = M3 at *
    refine c_M_best hM3.1 hW hM3.2.2.2.2.2 (fun M4 hno _ _ _ => ?_) (fun M4 l _ _ hl hBS f1 f2 f16 f30 f28 f29 f42 => ?_)
    · exfalso
      rcases hno with z | z | z
      · omega
      · omega
      · rcases z with ⟨-, z⟩ | ⟨c', c1, -, c3, -⟩
        · have := z c hvc
          rw [hgd] at this
          exact absurd this (by decide)
        · exact nI_neg1 _ (by have := tkN_lt (hW.gc c1); omega) c3.symm
    · rcases id hBS with ⟨z, -⟩ | ⟨c', c1, c2, c3, c4, c5⟩
      · exact absurd z hl
      · -- both are the same plan
        have hS' := (SG_good hp hn1 hsl).mpr ⟨c1, c2⟩
        have x := ho.2.2 c' hS'
        have y := c5 c hvc hgd
        rw [htk c o1.1, htk c' hS'] at y
        have hsame : cst g c 0 7 = cst g c' 0 7 ∧ ∀ j, j < pls g → c j = c' j := by
          rcases x with x | ⟨x, j, -, j2, j3, j4⟩
          · rcases y with y | ⟨y, -⟩ <;> omega
          · rcases y with y | ⟨-, y⟩
            · omega
            · exact ⟨x, LX_anti ⟨j, j2, fun j' hj' => j3 j' (by omega) hj', j4⟩ y⟩
        have hl2 : l = nI (R 7 / 4096) := by rw [c3, htk c' hS', hv, hsame.1]
        rw [← hl2]
        -- the plan as it stands in the reference
        have hcc : vC g (fun j => if j < pls g then c j else g 42 j) := by
          refine ⟨fun j hj => ?_, fun a b hab hb => ?_, ?_⟩
          · show (if j < pls g then c j else g 42 j) < 32 ∧ (if j < pls g then c j else g 42 j) % 16 < pls g
            rw [if_pos hj]; exact hvc.1 j hj
          · show (if a < pls g then c a else g 42 a) % 16 ≠ (if b < pls g then c b else g 42 b) % 16
            rw [if_pos hb, if_pos (by omega)]; exact hvc.2.1 a b hab hb
          · show 16 ≤ (if 0 < pls g then c 0 else g 42 0)
            rw [if_pos (by omega)]; exact hvc.2.2
        have e42 : ∀ j, (gC g (fun j => if j < pls g then c j else g 42 j)) 42 j = if j < pls g then c j else g 42 j := fun j => rfl
        obtain ⟨hC, hX, h48, hs, hMr, hK⟩ := hM3
        have hR4 : RC (gC g (fun j => if j < pls g then c j else g 42 j)) M4 := by
          obtain ⟨r1, r2, r3, r4⟩ := hC
          refine ⟨fun k1 a b c0 j => ?_, fun j => ?_, ?_, fun j a b => ?_⟩
          · by_cases hk : k1 = 42
            · subst hk
              rw [f42 j, e42 j]
              by_cases hj : j < pls g
              · rw [if_pos hj, if_pos hj, c4 j hj, hsame.2 j hj]
              · rw [if_neg hj, if_neg hj]
                exact r1 42 a b c0 j
            · rw [f1 k1 (by omega) hk (by omega) (by omega) (by omega), r1 k1 a b c0 j]
              have : gC g (fun j => if j < pls g then c j else g 42 j) k1 = g31 g 16 (pls g) k1 := if_neg hk
              rw [this]
              have : g31 g 16 (pls g) k1 = g k1 := if_neg (by omega)
              rw [this]
          · rw [f1 40 (by omega) (by omega) (by omega) (by omega) (by omega)]; exact r2 j
          · rw [f2 4 (by omega) (by omega) (by omega) (by omega)]; exact r3
          · by_cases hj : j = 16
            · subst hj; exact f16
            · rw [f2 j hj (by omega) (by omega) (by omega), r4 j a b]
              have : gC g (fun j => if j < pls g then c j else g 42 j) 31 j = g 31 j := if_neg hj
              rw [this]
        have hWc := hW.gc hcc
        have hpl : ∀ j, j < pls g → plc (gC g (fun j => if j < pls g then c j else g 42 j)) j = c j % 16 := fun j hj => by
          unfold plc
          rw [e42 j, if_pos hj]
        have hWp : Wp (gC g (fun j => if j < pls g then c j else g 42 j)) := by
          refine ⟨fun a b hab hb => hcc.2.1 a b hab hb, fun _ => ?_, hp.2.2⟩
          show decide (16 ≤ (if 0 < pls g then c 0 else g 42 0)) = true
          rw [decide_eq_true_eq]
          exact hcc.2.2
        have hDT : DC (gC g (fun j => if j < pls g then c j else g 42 j)) M3 := by
          obtain ⟨hK', hP, hS, hG, hR⟩ := hD.1
          refine ⟨?_, ?_, ?_, ?_, ?_, ?_, fun j hj => ?_⟩
          · unfold DK at *
            simp only [nd 2 (by omega) (by omega), nd 3 (by omega) (by omega), nd 4 (by omega) (by omega), nd 5 (by omega) (by omega)]
            exact hK'
          · unfold DP at *
            simp only [nd 1 (by omega) (by omega), nd 6 (by omega) (by omega), nd 7 (by omega) (by omega), nd 8 (by omega) (by omega), nd 9 (by omega) (by omega), nd 10 (by omega) (by omega)]
            exact hP
          · unfold DS at *
            rw [nd 12 (by omega) (by omega), nd 13 (by omega) (by omega)]; exact hS
          · unfold DG at *
            rw [nd 14 (by omega) (by omega)]; exact hG
          · rw [d15]; exact hRW.1
          · rw [d15, hRW.2.1]
            congr 1
            apply bits_ext
            intro p
            rw [bitsOf_bit, Bool.eq_iff_iff, Bool.and_eq_true, decide_eq_true_eq, inP_iff, dsT_bit]
            constructor
            · rintro (z | ⟨j, j1, j2⟩)
              · simp at z
              · have hj := (hvc.1 j j1).2
                have j2 : c j % 16 = p := j2
                exact ⟨by omega, j, j1, by rw [hpl j j1]; exact j2⟩
            · rintro ⟨-, j, j1, j2⟩
              have j1 : j < pls g := j1
              rw [hpl j j1] at j2
              exact Or.inr ⟨j, j1, j2⟩
          · have hj : j < pls g := hj
            rw [d16, e42 j, if_pos hj]
            exact hRW.2.2 j hj
        refine kk _ M4 (by rw [f1 1000 (by omega) (by omega) (by omega) (by omega) (by omega)]; exact nd 1000 (by omega) (by omega)) ?_
        refine RX.mk0 (g := gC g (fun j => if j < pls g then c j else g 42 j)) (ov := ov) (i := i) (t := t) (st := rs.1) ⟨hWc, hWp, hL, hRg⟩ ⟨h19, hmis⟩ hst hout (fun q => ?_) hov hR4 ⟨fun n => ?_, ?_⟩ f30 ?_ ?_ ?_ ?_ (hDT.fr (fun k1 a b => f1 k1 (by omega) (by omega) (by omega) (by omega) (by omega))) ⟨fun n hnn => ?_, ?_⟩ ?_
        · rw [f1 48 (by omega) (by omega) (by omega) (by omega) (by omega)]; exact h48 q
        · rw [f1 43 (by omega) (by omega) (by omega) (by omega) (by omega)]; exact hX.1 n
        · rw [f2 19 (by omega) (by omega) (by omega) (by omega)]; exact hX.2
        · rw [f2 31 (by omega) (by omega) (by omega) (by omega)]; exact hs.2.1
        · rw [f2 32 (by omega) (by omega) (by omega) (by omega)]; exact hs.2.2.1
        · rw [f2 35 (by omega) (by omega) (by omega) (by omega)]; exact hs.2.2.2
        · exact Or.inr ⟨f28, by rw [f29]; exact hBS.view VE.gc⟩
        · rw [f1 28 (by omega) (by omega) (by omega) (by omega) (by omega), nd 28 (by omega) (by omega)]; exact hD.2.1.1 n hnn
        · rw [f1 26 (by omega) (by omega) (by omega) (by omega) (by omega), d26 6]; exact hD.2.1.2
        · rw [f1 26 (by omega) (by omega) (by omega) (by omega) (by omega), d26 7]; exact if_pos rfl
end OB
