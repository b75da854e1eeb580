/-! The desk: a tour, whole. -/
theorem toF_st {g : GS} {gv : Nat → Nat} {s : Nat} : ∀ (n j : Nat) (rs : RS) (p : Nat), (toF g gv s n j rs).1 p = rs.1 p ∨ (toF g gv s n j rs).1 p = 2
  | 0, j, rs, p => Or.inl rfl
  | n + 1, j, rs, p => by
    rw [toF]
    rcases toF_st (g := g) (gv := gv) (s := s) n (j + 1) (if rs.1 (plc g j) = 0 ∧ gv (plc g j) = s then tpS g s (plc g j) rs else rs) p with h | h
    · rw [h]
      split
      · rw [tpS_st]
        split
        · next e =>
          split
          · exact Or.inl (by rw [e])
          · exact Or.inr rfl
        · exact Or.inl rfl
      · exact Or.inl rfl
    · exact Or.inr h
theorem taF_st {g : GS} {gv u : Nat → Nat} {i e : Nat} : ∀ (n s : Nat) (rs : RS) (p : Nat), (taF g gv u i e n s rs).1 p = rs.1 p ∨ (taF g gv u i e n s rs).1 p = 2
  | 0, s, rs, p => Or.inl rfl
  | n + 1, s, rs, p => by
    rw [taF]
    rcases taF_st (g := g) (gv := gv) (u := u) (i := i) (e := e) n (s + 1) (if 0 < u s then toF g gv s (e - i) i (rsH rs (hGo rs.2.2.1 (20 * s) 0)) else rs) p with h | h
    · rw [h]
      split
      · exact toF_st _ _ _ _
      · exact Or.inl rfl
    · exact Or.inr h
theorem lpF_st {g : GS} {i e : Nat} {rs : RS} : (lpF g i e rs).1 = rs.1 := by
  unfold lpF
  split <;> rfl
theorem seF_st {g : GS} (hp : Wp g) : ∀ (n j : Nat) (rs : RS) (j' : Nat), j + n ≤ j' → j' < pln g → (seF g n j rs).1 (plc g j') = rs.1 (plc g j')
  | 0, j, rs, j', _, _ => rfl
  | n + 1, j, rs, j', h1, h2 => by
    rw [seF, seF_st hp n (j + 1) _ j' (by omega) h2]
    have hne : plc g j' ≠ plc g j := fun q => hp.1 j j' (by omega) h2 q.symm
    unfold seS
    split
    · split
      · exact fs_ne _ _ hne
      · exact fs_ne _ _ hne
    · rfl
theorem toR_ne1 {g : GS} (hp : Wp g) {i e : Nat} {rs : RS} (hie : i ≤ e) {j : Nat} (hj : j < pln g) (hj2 : (toR g i e rs).1 = 0 → e ≤ j) (h : rs.1 (plc g j) ≠ 1) : (toR g i e rs).2.1 (plc g j) ≠ 1 := by
  have hl := loF_ne1 (g := g) (e - i) i rs.1 (plc g j) h
  unfold toR at hj2 ⊢
  split
  · next c1 =>
    rw [if_pos c1] at hj2
    split
    · next c2 =>
      rw [if_pos c2] at hj2
      have hj3 := hj2 rfl
      show (seF g (e - i) i _).1 (plc g j) ≠ 1
      rw [seF_st hp (e - i) i _ j (by omega) hj, lpF_st]
      rcases taF_st (g := g) (gv := (giF g (loF g (e - i) i rs.1) rs.2.1 i (e - i) i (fun _ => 0)).2) (u := usN g (loF g (e - i) i rs.1) (giF g (loF g (e - i) i rs.1) rs.2.1 i (e - i) i (fun _ => 0)).2 i e) (i := i) (e := e) 8 0 (loF g (e - i) i rs.1, rs.2.1, hBear rs.2.2.1 (nzA g i) (g 31 15), rs.2.2.2) (plc g j) with q | q
      · rw [q]; exact hl
      · rw [q]; omega
    · exact hl
  · exact hl
section DW
variable {E : Env0} {d : Nat} {M : Mem} {Q : Int32 → Mem → Prop} {g : GS} {rs : RS}
theorem c_T_takePartsOf {s i e : Nat} {gv : Nat → Nat} (hD : DT g rs M) (hX : DX g M) (hW : Wk g) (hb : rsB rs) (h19 : g 31 19 ≤ 3) (hmis : ∀ n, g 43 n ≤ 1) (hs : s < 8) (he : e ≤ pln g) (hie : i ≤ e) (htk : rs.2.2.2.1 + 4 * (e - i) < 2 ^ 20) (h1 : ∀ j, i ≤ j → j < e → rs.1 (plc g j) ≠ 1) (hgv : ∀ j, i ≤ j → j < e → rs.1 (plc g j) = 0 → gv (plc g j) < 8 ∧ M 29 (plc g j) = nI (gv (plc g j))) (k : ∀ M', sD M M' → DT g (toF g gv s (e - i) i rs) M' → Q 0 M') : CE E (d + 2) n_T_takePartsOf [.inr 26, .inl (nI s), .inl (nI i), .inl (nI e)] M Q := by
  have hn := hW.2.1
  have hp10 := hW.1
  have key : ∀ (n j : Nat) (rs1 : RS) (M1 : Mem) (o2 o5 : Option V), j + n = e → i ≤ j → DT g rs1 M1 → rsB rs1 → rs1.2.2.2.1 + 4 * n < 2 ^ 20 → sD M M1 → (∀ p, rs1.1 p = rs.1 p ∨ rs1.1 p = 2) → toF g gv s n j rs1 = toF g gv s (e - i) i rs → JE E (d + 2) n_T_takePartsOf 3 [some (.inr 26), some (.inl (nI s)), o2, some (.inl (nI e)), some (.inl (nI j)), o5] [] M1 Q := by
    intro n
    induction n with
    | zero =>
      intro j rs1 M1 o2 o5 hj hij hD1 hb1 ht1 s1 hst hfin
      rw [toF] at hfin
      rw [hfin] at hD1
      exact b_T_takePartsOf_3 _ _ _ _ _ ⟨fun _ => k M1 s1 hD1, fun c1 => absurd (nI_le (by omega) (by omega)) c1⟩
    | succ n ih =>
      intro j rs1 M1 o2 o5 hj hij hD1 hb1 ht1 s1 hst hfin
      have hpj := hW.2.2.2.2.2.2.2.2 j (by omega)
      have hs2 := hb1.1 (plc g j)
      have hs0 := h1 j hij (by omega)
      have hq := hst (plc g j)
      have v2 : vp_in (nI (plc g j)) 10 := vp_in_nI (by omega) (by omega)
      rw [toF] at hfin
      refine b_T_takePartsOf_3 _ _ _ _ _ ⟨fun c1 => absurd c1 (nI_ge (by omega) (by omega)), fun _ => ?_⟩
      refine t_placeAt hD1 hW hb1 (by omega) (c_T_isMissing hD1 (by omega) ⟨fun c2 => ?_, fun c2 => ⟨v2, ?_⟩⟩)
      · rw [b2_nz, beq_iff_eq] at c2
        rw [if_neg (by omega)] at hfin
        rw [nI_1]
        exact ih (j + 1) rs1 M1 _ _ (by omega) (by omega) hD1 hb1 (by omega) s1 hst hfin
      · rw [b2_z] at c2
        have c2 : ¬ rs1.1 (plc g j) = 2 := by simpa using c2
        have h0 : rs1.1 (plc g j) = 0 := by omega
        obtain ⟨g1, g2⟩ := hgv j hij (by omega) (by omega)
        rw [nI_clamp (by omega), s1.1 29 (by omega) (by omega) (by omega), g2, nI_eq (by omega) (by omega)]
        refine ⟨fun c3 => ?_, fun c3 => ?_⟩
        · rw [if_neg (by omega)] at hfin
          rw [nI_1]
          exact ih (j + 1) rs1 M1 _ _ (by omega) (by omega) hD1 hb1 (by omega) s1 hst hfin
        · rw [if_pos ⟨h0, c3⟩] at hfin
          have hbT := tpS_b (g := g) (s := s) (p := plc g j) (m := rs1.2.2.2.1 + 4) h19 hb1 (Nat.le_refl _) (by omega)
          refine c_T_takesPart hD1 (hX.sD s1) hb1 h19 hmis hs (fun M2 s2 hD2 => ⟨fun c4 => ?_, fun c4 => ?_⟩)
          · rw [b2_nz] at c4
            have eT : tpS g s (plc g j) rs1 = (rs1.1, (tpF g s (g 31 19 + 1) rs1.2).2) := by
              unfold tpS
              rw [if_pos c4]
            rw [eT] at hfin hbT
            rw [nI_1]
            exact ih (j + 1) _ M2 _ _ (by omega) (by omega) hD2 hbT.1 (by have := hbT.2; omega) (s1.tr s2) hst hfin
          · rw [b2_z] at c4
            have eT : tpS g s (plc g j) rs1 = (fs rs1.1 (plc g j) 2, (tpF g s (g 31 19 + 1) rs1.2).2) := by
              unfold tpS
              rw [c4, if_neg (by simp)]
            rw [eT] at hfin hbT
            rw [nI_1]
            refine ih (j + 1) (fs rs1.1 (plc g j) 2, (tpF g s (g 31 19 + 1) rs1.2).2) _ _ _ (by omega) (by omega) (hD2.st2 (by omega) (by show rs1.1 (plc g j) ≠ 1; omega)) hbT.1 (by have := hbT.2; omega) ((s1.tr s2).tr (sD.set26 15 _ (by omega))) (fun p => ?_) hfin
            show fs rs1.1 (plc g j) 2 p = _ ∨ fs rs1.1 (plc g j) 2 p = 2
            unfold fs
            split
            · exact Or.inr rfl
            · exact hst p
  refine CE_of rfl (b_T_takePartsOf_0 _ _ _ ?_)
  exact key (e - i) i rs M _ _ (by omega) (by omega) hD hb htk sD.rf (fun p => Or.inl rfl) rfl
theorem c_T_takeParts {i e : Nat} {gv u : Nat → Nat} (hD : DT g rs M) (hX : DX g M) (hW : Wk g) (hb : rsB rs) (h19 : g 31 19 ≤ 3) (hmis : ∀ n, g 43 n ≤ 1) (he : e ≤ pln g) (hie : i < e) (htk : rs.2.2.2.1 + 320 < 2 ^ 20) (h1 : ∀ j, i ≤ j → j < e → rs.1 (plc g j) ≠ 1) (hgv : ∀ j, i ≤ j → j < e → rs.1 (plc g j) = 0 → gv (plc g j) < 8 ∧ M 29 (plc g j) = nI (gv (plc g j))) (hu : ∀ s, s < 8 → M 30 s = nI (u s) ∧ u s ≤ 10) (k : ∀ M', sD M M' → DT g (taF g gv u i e 8 0 (rsH rs (hBear rs.2.2.1 (nzA g i) (g 31 15)))) M' → Q 0 M') : CE E (d + 3) n_T_takeParts [.inr 26, .inl (nI i), .inl (nI e)] M Q := by
  have hn := hW.2.1
  have hp10 := hW.1
  have hpi := hW.2.2.2.2.2.2.2.2 i (by omega)
  have hnz := (hW.2.2.2.1 _ (hW.kd (i := i) (by omega))).2.2.1
  generalize hN : taF g gv u i e 8 0 (rsH rs (hBear rs.2.2.1 (nzA g i) (g 31 15))) = N at k
  have key : ∀ (n s : Nat) (rs1 : RS) (M1 : Mem), s + n = 8 → DT g rs1 M1 → rsB rs1 → rs1.2.2.2.1 + n * (4 * (e - i)) < 2 ^ 20 → sD M M1 → (∀ p, rs1.1 p = rs.1 p ∨ rs1.1 p = 2) → taF g gv u i e n s rs1 = N → JE E (d + 3) n_T_takeParts 31 [some (.inr 26), some (.inl (nI i)), some (.inl (nI e)), some (.inl (nI s))] [] M1 Q := by
    intro n
    induction n with
    | zero =>
      intro s rs1 M1 hs hD1 hb1 ht1 s1 hst hfin
      rw [taF] at hfin
      rw [hfin] at hD1
      exact b_T_takeParts_31 _ _ _ ⟨fun _ => k M1 s1 hD1, fun c1 => absurd (nI_le (a := 8) (by omega) (by omega)) c1⟩
    | succ n ih =>
      intro s rs1 M1 hs hD1 hb1 ht1 s1 hst hfin
      rw [Nat.succ_mul n (4 * (e - i))] at ht1
      rw [taF] at hfin
      obtain ⟨u1, u2⟩ := hu s (by omega)
      have e30 : M1 30 s = nI (u s) := by rw [s1.1 30 (by omega) (by omega) (by omega)]; exact u1
      have e20 : (20 : Int32) * nI s = nI (20 * s) := by rw [show (20 : Int32) = nI 20 from rfl, pk_mul]
      refine b_T_takeParts_31 _ _ _ ⟨fun c1 => absurd c1 (nI_ge (b := 8) (by omega) (by omega)), fun _ => ⟨vp_in_nI (by omega) (by omega), ?_⟩⟩
      rw [nI_clamp (by omega), e30, zero_nI, nI_leI (by omega) (by omega), e20, nI_1]
      refine ⟨fun c2 => ?_, fun c2 => ?_⟩
      · rw [if_neg (by omega)] at hfin
        exact ih (s + 1) rs1 M1 (by omega) hD1 hb1 (by omega) s1 hst hfin
      · rw [if_pos (by omega)] at hfin
        rw [← zero_nI]
        refine c_H_moveTo_27 (x := 20 * s) (y := 0) hD1.2.2.2.1 hb1.2.2.1 (by omega) (by omega) (fun M2 s2 H2 => ?_)
        have hD2 := hD1.hd s2 H2
        have hb2 : rsB (rsH rs1 (hGo rs1.2.2.1 (20 * s) 0)) := ⟨hb1.1, hb1.2.1, hB_go hb1.2.2.1 (by omega) (by omega), hb1.2.2.2⟩
        have s12 := s1.tr (sD.ofH s2)
        have hT := toF_b h19 gv s (e - i) i (rsH rs1 (hGo rs1.2.2.1 (20 * s) 0)) hb2 (by show rs1.2.2.2.1 + _ < _; omega)
        have hT2 : (toF g gv s (e - i) i (rsH rs1 (hGo rs1.2.2.1 (20 * s) 0))).2.2.2.1 ≤ rs1.2.2.2.1 + 4 * (e - i) := hT.2
        refine c_T_takePartsOf (gv := gv) hD2 (hX.sD s12) hW hb2 h19 hmis (by omega) he (by omega) (by show rs1.2.2.2.1 + _ < _; omega) (fun j a b => ?_) (fun j a b c => ?_) (fun M3 s3 hD3 => ?_)
        · have := hst (plc g j)
          have := h1 j a b
          show rs1.1 (plc g j) ≠ 1
          omega
        · have c : rs1.1 (plc g j) = 0 := c
          have := hst (plc g j)
          obtain ⟨g1, g2⟩ := hgv j a b (by omega)
          refine ⟨g1, ?_⟩
          rw [s12.1 29 (by omega) (by omega) (by omega)]
          exact g2
        · refine ih (s + 1) _ M3 (by omega) hD3 hT.1 (by omega) (s12.tr s3) (fun p => ?_) hfin
          rcases toF_st (g := g) (gv := gv) (s := s) (e - i) i (rsH rs1 (hGo rs1.2.2.1 (20 * s) 0)) p with q | q
          · rw [q]; exact hst p
          · exact Or.inr q
  have e14 : M 14 4 = nI (g 31 15) := hD.1.2.2.2.1.2.2.2.2
  refine CE_of rfl (b_T_takeParts_0 _ _ (t_placeAt hD hW hb (by omega) (t_nozzleOf hD hW hb (by omega) ?_)))
  rw [e14]
  refine c_H_bear_27 hD.2.2.2.1 hb.2.2.1 hnz (fun M1 s1 H1 => ?_)
  have hm : 8 * (4 * (e - i)) ≤ 320 := by omega
  exact key 8 0 (rsH rs (hBear rs.2.2.1 (nzA g i) (g 31 15))) M1 (by omega) (hD.hd s1 H1) ⟨hb.1, hb.2.1, hB_bear hb.2.2.1 hnz, hb.2.2.2⟩ (by show rs.2.2.2.1 + _ < _; omega) (sD.ofH s1) (fun p => Or.inl rfl) hN
theorem c_T_lookAtParts {i e : Nat} (hD : DT g rs M) (hW : Wk g) (hb : rsB rs) (he : e ≤ pln g) (hie : i ≤ e) (h1 : ∀ j, i ≤ j → j < e → rs.1 (plc g j) ≠ 1) (k : ∀ M', sD M M' → DT g (lpF g i e rs) M' → Q 0 M') : CE E (d + 2) n_T_lookAtParts [.inr 26, .inl (nI i), .inl (nI e)] M Q := by
  have hn := hW.2.1
  have hp10 := hW.1
  have key : ∀ (n j c : Nat) (o1 o5 : Option V), j + n = e → i ≤ j → c ≤ j → c + cnt (fun j => rs.1 (plc g j) == 0 && g 35 (kdA g j) == 1) n j = lpC g rs.1 i e → JE E (d + 2) n_T_lookAtParts 5 [some (.inr 26), o1, some (.inl (nI e)), some (.inl (nI c)), some (.inl (nI j)), o5] [] M Q := by
    intro n
    induction n with
    | zero =>
      intro j c o1 o5 hj hij hc hcc
      rw [cnt, Nat.add_zero] at hcc
      unfold lpF at k
      rw [← hcc] at k
      refine b_T_lookAtParts_5 _ _ _ _ _ ⟨fun _ => ?_, fun c1 => absurd (nI_le (by omega) (by omega)) c1⟩
      rw [zero_nI, nI_leI (by omega) (by omega), ← zero_nI]
      refine ⟨fun c2 => ?_, fun c2 => ?_⟩
      · rw [if_neg (by omega)] at k
        exact k M sD.rf hD
      · rw [if_pos (by omega)] at k
        refine c_H_moveTo_27 (x := 199) (y := 0) hD.2.2.2.1 hb.2.2.1 (by omega) (by omega) (fun M1 s1 H1 => ?_)
        have e14 : M1 14 3 = nI (g 31 14) := by rw [s1 14 (by omega)]; exact hD.1.2.2.2.1.2.2.2.1
        rw [e14, pk_mul]
        refine c_H_spend_27 H1 (fun M2 s2 H2 => ?_)
        exact k M2 (sD.ofH (s1.tr s2)) (hD.hd (s1.tr s2) H2)
    | succ n ih =>
      intro j c o1 o5 hj hij hc hcc
      have hpj := hW.2.2.2.2.2.2.2.2 j (by omega)
      have hs := hb.1 (plc g j)
      have hs1 := h1 j hij (by omega)
      rw [cnt_succ_if] at hcc
      refine b_T_lookAtParts_5 _ _ _ _ _ ⟨fun c1 => absurd c1 (nI_ge (by omega) (by omega)), fun _ => ?_⟩
      rw [nI_1, nI_1]
      refine t_placeAt hD hW hb (by omega) (c_T_isMissing hD (by omega) ⟨fun c2 => ?_, fun c2 => ?_⟩)
      · rw [b2_nz, beq_iff_eq] at c2
        have e0 : (rs.1 (plc g j) == 0 && g 35 (kdA g j) == 1) = false := by rw [c2]; rfl
        rw [e0] at hcc
        exact ih (j + 1) c _ _ (by omega) (by omega) (by omega) hcc
      · rw [b2_z] at c2
        have c2 : ¬ rs.1 (plc g j) = 2 := by simpa using c2
        have h0 : rs.1 (plc g j) = 0 := by omega
        refine t_isFine hD hW hb (by omega) ⟨fun c3 => ?_, fun c3 => ?_⟩
        · rw [b2_z] at c3
          have e0 : (rs.1 (plc g j) == 0 && g 35 (kdA g j) == 1) = false := by
            rw [Bool.and_eq_false_iff]
            exact Or.inr c3
          rw [e0] at hcc
          exact ih (j + 1) c _ _ (by omega) (by omega) (by omega) hcc
        · rw [b2_nz] at c3
          have e0 : (rs.1 (plc g j) == 0 && g 35 (kdA g j) == 1) = true := by
            rw [Bool.and_eq_true, h0]
            exact ⟨rfl, c3⟩
          rw [e0] at hcc
          exact ih (j + 1) (c + 1) _ _ (by omega) (by omega) (by omega) hcc
  refine CE_of rfl (b_T_lookAtParts_0 _ _ ?_)
  exact key (e - i) i 0 _ _ (by omega) (by omega) (by omega) (by rw [Nat.zero_add]; rfl)
theorem c_T_setParts {i e : Nat} (hD : DT g rs M) (hW : Wk g) (hp : Wp g) (hb : rsB rs) (he : e ≤ pln g) (hie : i ≤ e) (h1 : ∀ j, i ≤ j → j < e → rs.1 (plc g j) ≠ 1) (k : ∀ M', sD M M' → DT g (seF g (e - i) i rs) M' → Q 0 M') : CE E (d + 2) n_T_setParts [.inr 26, .inl (nI i), .inl (nI e)] M Q := by
  have hn := hW.2.1
  have hp10 := hW.1
  have key : ∀ (n j : Nat) (rs1 : RS) (M1 : Mem) (o1 o4 : Option V), j + n = e → i ≤ j → DT g rs1 M1 → rsB rs1 → sD M M1 → (∀ j', j ≤ j' → j' < e → rs1.1 (plc g j') ≠ 1) → seF g n j rs1 = seF g (e - i) i rs → JE E (d + 2) n_T_setParts 2 [some (.inr 26), o1, some (.inl (nI e)), some (.inl (nI j)), o4] [] M1 Q := by
    intro n
    induction n with
    | zero =>
      intro j rs1 M1 o1 o4 hj hij hD1 hb1 s1 hst hfin
      rw [seF] at hfin
      rw [hfin] at hD1
      exact b_T_setParts_2 _ _ _ _ ⟨fun _ => k M1 s1 hD1, fun c1 => absurd (nI_le (by omega) (by omega)) c1⟩
    | succ n ih =>
      intro j rs1 M1 o1 o4 hj hij hD1 hb1 s1 hst hfin
      have hpj := hW.2.2.2.2.2.2.2.2 j (by omega)
      have hs2 := hb1.1 (plc g j)
      have hs1 := hst j (by omega) (by omega)
      have v2 : vp_in (nI (plc g j)) 10 := vp_in_nI (by omega) (by omega)
      have hx := hW.2.2.1 (plc g j) (by omega)
      have hsb := seS_b (g := g) (p := plc g j) ⟨hx.1, hx.2.1⟩ hb1
      have hne : ∀ j', j + 1 ≤ j' → j' < e → plc g j' ≠ plc g j := fun j' a b q => hp.1 j j' (by omega) (by omega) q.symm
      rw [seF] at hfin
      refine b_T_setParts_2 _ _ _ _ ⟨fun c1 => absurd c1 (nI_ge (by omega) (by omega)), fun _ => ?_⟩
      rw [nI_1]
      refine t_placeAt hD1 hW hb1 (by omega) (c_T_isMissing hD1 (by omega) ⟨fun c2 => ?_, fun c2 => ?_⟩)
      · rw [b2_z] at c2
        have c2 : ¬ rs1.1 (plc g j) = 2 := by simpa using c2
        have h0 : rs1.1 (plc g j) = 0 := by omega
        refine c_T_isLateBehindMissing hD1 hW hpj.2 ⟨fun c3 => ⟨v2, v2, ?_⟩, fun c3 => ?_⟩
        · rw [b2_z] at c3
          have eS : seS g (plc g j) rs1 = (fs rs1.1 (plc g j) 1, (rsH rs1 (hAdd (hGo rs1.2.2.1 (g 36 (plc g j)) (g 37 (plc g j))) (g 31 13))).2) := by
            unfold seS
            rw [if_pos h0, c3, if_neg (by simp)]
          rw [eS] at hfin hsb
          have e6 : M1 6 (Int32.toNatClampNeg (nI (plc g j))) = nI (g 36 (plc g j)) := by
            rw [nI_clamp (by omega)]
            exact (hD1.1.2.1.2.1 (plc g j) hpj.2).1
          have e7 : M1 7 (Int32.toNatClampNeg (nI (plc g j))) = nI (g 37 (plc g j)) := by
            rw [nI_clamp (by omega)]
            exact (hD1.1.2.1.2.1 (plc g j) hpj.2).2.1
          rw [e6, e7]
          refine c_H_moveTo_27 hD1.2.2.2.1 hb1.2.2.1 hx.1 hx.2.1 (fun M2 s2 H2 => ?_)
          have e14 : M2 14 2 = nI (g 31 13) := by rw [s2 14 (by omega)]; exact hD1.1.2.2.2.1.2.2.1
          rw [e14]
          refine c_H_spend_27 H2 (fun M3 s3 H3 => ?_)
          have hD3 := hD1.hd (s2.tr s3) H3
          refine ih (j + 1) _ _ _ _ (by omega) (by omega) (hD3.st1 (by omega) c2) hsb.1 ((s1.tr (sD.ofH (s2.tr s3))).tr (sD.set26 14 _ (by omega))) (fun j' a b => ?_) hfin
          show fs rs1.1 (plc g j) 1 (plc g j') ≠ 1
          rw [fs_ne _ _ (hne j' a b)]
          exact hst j' (by omega) b
        · rw [b2_nz] at c3
          have eS : seS g (plc g j) rs1 = (fs rs1.1 (plc g j) 2, rs1.2) := by
            unfold seS
            rw [if_pos h0, if_pos c3]
          rw [eS] at hfin hsb
          refine ih (j + 1) _ _ _ _ (by omega) (by omega) (hD1.st2 (by omega) hs1) hsb.1 (s1.tr (sD.set26 15 _ (by omega))) (fun j' a b => ?_) hfin
          show fs rs1.1 (plc g j) 2 (plc g j') ≠ 1
          rw [fs_ne _ _ (hne j' a b)]
          exact hst j' (by omega) b
      · rw [b2_nz, beq_iff_eq] at c2
        have eS : seS g (plc g j) rs1 = rs1 := by
          unfold seS
          rw [if_neg (by omega)]
        rw [eS] at hfin
        exact ih (j + 1) rs1 M1 _ _ (by omega) (by omega) hD1 hb1 s1 (fun j' a b => hst j' (by omega) b) hfin
  refine CE_of rfl (b_T_setParts_0 _ _ ?_)
  exact key (e - i) i rs M _ _ (by omega) (by omega) hD hb sD.rf h1 rfl
end DW
