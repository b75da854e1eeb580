/-! The reference: a tour and a run, whole. -/
section RW
variable {E : Env0} {d : Nat} {M : Mem} {Q : Int32 → Mem → Prop} {g : GS} {rs : RS}
/-- what a tour may change -/
def sU (M M' : Mem) : Prop := (∀ k, k ≠ 31 → k ≠ 41 → k ≠ 48 → k ≠ 49 → k ≠ 50 → M' k = M k) ∧ ∀ j, (j < 21 ∨ 24 < j) → (j < 32 ∨ 36 < j) → M' 31 j = M 31 j
theorem sU.rf : sU M M := ⟨fun _ _ _ _ _ _ => rfl, fun _ _ _ => rfl⟩
theorem sU.tr {M1 M2 : Mem} (h1 : sU M M1) (h2 : sU M1 M2) : sU M M2 := ⟨fun k a b c d e => (h2.1 k a b c d e).trans (h1.1 k a b c d e), fun j a b => (h2.2 j a b).trans (h1.2 j a b)⟩
theorem sU.ofR {M' : Mem} (h : sR M M') : sU M M' := ⟨h.1, fun j a b => h.2 j a (by omega)⟩
theorem sU.set31 (j : Nat) (x : Int32) (h : 32 ≤ j ∧ j ≤ 36) : sU M (mset M 31 j x) := by
  refine ⟨fun k' a _ _ _ _ => mset_ne M j x a, fun j' h1 h2 => ?_⟩
  rw [mset_eq]
  unfold upd
  rw [if_neg (by omega)]
theorem MX.sU (hX : MX g M) {M' : Mem} (h : sU M M') : MX g M' := ⟨fun n => by rw [h.1 43 (by omega) (by omega) (by omega) (by omega) (by omega)]; exact hX.1 n, by rw [h.2 19 (by omega) (by omega)]; exact hX.2⟩
theorem giF_fs_us {g : GS} {st gv : Nat → Nat} {i j s p v : Nat} (h : ∀ j', i ≤ j' → j' < j → plc g j' ≠ p) : usN g st (fs gv p v) i j s = usN g st gv i j s := by
  apply usN_cong
  intro j' h1 h2
  rw [fs_ne _ _ (h j' h1 h2)]
theorem c_M_tour {i t : Nat} (hM : MR g rs M) (hX : MX g M) (hW : Wk g) (hp : Wp g) (hb : rsB rs) (h19 : g 31 19 ≤ 3) (hmis : ∀ n, g 43 n ≤ 1) (hi : i < pln g) (h32 : M 31 32 = nI i) (h35 : M 31 35 = nI t) (htk : rs.2.2.2.1 + 320 < 2 ^ 20)
    (k0 : (toR g i (enT g i) rs).1 ≠ 0 → ∀ M', sU M M' → MR g (toR g i (enT g i) rs).2 M' → M' 31 32 = nI i → M' 31 35 = nI t → M' 31 36 = nI ((toR g i (enT g i) rs).1 - 1) → Q 0 M')
    (k1 : (toR g i (enT g i) rs).1 = 0 → ∀ M', sU M M' → MR g (toR g i (enT g i) rs).2 M' → M' 31 32 = nI (enT g i) → M' 31 35 = nI (t + 1) → M' 31 36 = M 31 36 → Q 1 M') : CE E (d + 3) n_M_tour [.inr 31] M Q := by
  have hn := hW.2.1
  have hp10 := hW.1
  have hen := enT_le g hi
  generalize he : enT g i = e at hen k0 k1
  generalize hstF : loF g (e - i) i rs.1 = stF at *
  have hstF2 : ∀ p, stF p ≤ 2 := by rw [← hstF]; exact loF_le _ _ _ hb.1
  have hW2 : ∀ rs' : RS, rsB rs' → Wk (sG g 41 rs'.2.1) := fun rs' h => hW.sG41 h.2.1
  have hgi : ∀ x, giF g (loF g (e - i) i rs.1) rs.2.1 i (e - i) i (fun _ => 0) = x → giF g stF rs.2.1 i (e - i) i (fun _ => 0) = x := by
    intro x hx
    rw [hstF] at hx
    exact hx
  -- the slots are given
  have L98 : ∀ (n j w : Nat) (gv : Nat → Nat) (M1 : Mem) (o4 o5 o6 o7 : Option V), j + n = e → i ≤ j → w = wnC g stF i e → MR g (stF, rs.2) M1 → sR M M1 → M1 31 = M 31 → (∀ j', i ≤ j' → j' < e → M1 50 (plc g j') = 0) → (∀ j', i ≤ j' → j' < j → stF (plc g j') = 0 → gv (plc g j') < 8 ∧ M1 49 (plc g j') = nI (gv (plc g j'))) → giF g stF rs.2.1 i n j gv = giF g stF rs.2.1 i (e - i) i (fun _ => 0) → JE E (d + 3) n_M_tour 98 [some (.inr 31), some (.inl (nI e)), some (.inl (nI w)), some (.inl (nI j)), o4, o5, o6, o7] [] M1 Q := by
    intro n
    induction n with
    | zero =>
      intro j w gv M1 o4 o5 o6 o7 hj hij hw hM1 s1 e31 h50 hgv hfin
      have hw10 : w ≤ 10 := by rw [hw]; exact Nat.le_trans (cnt_le _ _ _) (by omega)
      have hb1 : rsB ((stF, rs.2) : RS) := ⟨hstF2, hb.2.1, hb.2.2.1, hb.2.2.2⟩
      rw [giF] at hfin
      have hM2 : MR g (stF, rs.2) (mset (mset M1 31 32 (nI e)) 31 35 (M1 31 35 + 1)) := (hM1.set 31 32 _ (by omega)).set 31 35 _ (by omega)
      have sM2 : sU M (mset (mset M1 31 32 (nI e)) 31 35 (M1 31 35 + 1)) := ((sU.ofR s1).tr (sU.set31 32 _ (by omega))).tr (sU.set31 35 _ (by omega))
      have f32 : ∀ M', sR (mset (mset M1 31 32 (nI e)) 31 35 (M1 31 35 + 1)) M' → M' 31 32 = nI e ∧ M' 31 35 = nI (t + 1) ∧ M' 31 36 = M 31 36 := by
        intro M' s
        rw [s.2 32 (by omega) (by omega), s.2 35 (by omega) (by omega), s.2 36 (by omega) (by omega)]
        simp only [mset_eq, upd]
        refine ⟨rfl, ?_, ?_⟩
        · simp
          rw [e31, h35, nI_1]
        · simp
          rw [e31]
      refine b_M_tour_98 _ _ _ _ _ _ _ ⟨fun _ => ⟨fun c2 => ?_, fun c2 => ⟨z01_1, ?_⟩⟩, fun c1 => absurd (nI_le (by omega) (by omega)) c1⟩
      · rw [zero_nI, nI_eq (by omega) (by omega)] at c2
        rw [show M1 31 32 = nI i by rw [e31]; exact h32]
        have eT : toR g i e rs = (0, seF g (e - i) i (lpF g i e (taF g gv (usN g stF gv i e) i e 8 0 (stF, rs.2.1, hBear rs.2.2.1 (nzA g i) (g 31 15), rs.2.2.2)))) := by
          unfold toR
          rw [hstF, if_pos (by omega), ← hfin, if_pos rfl]
        rw [eT] at k1
        have k1 := k1 rfl
        have hk := hW.kd (i := i) (by omega)
        have hnz := (hW.2.2.2.1 _ hk).2.2.1
        have hX2 := hX.sU sM2
        -- with the new nozzle
        have go : ∀ (M3 : Mem) (o5 : Option V), sR (mset (mset M1 31 32 (nI e)) 31 35 (M1 31 35 + 1)) M3 → M3 50 = M1 50 → M3 49 = M1 49 → MR g (stF, rs.2.1, ((hBear rs.2.2.1 (nzA g i) (g 31 15)).1, (hBear rs.2.2.1 (nzA g i) (g 31 15)).2.1, (rs.2.2.1.2.2.1 : Nat), (hBear rs.2.2.1 (nzA g i) (g 31 15)).2.2.2), rs.2.2.2) M3 → JE E (d + 3) n_M_tour 233 [some (.inr 31), some (.inl (nI e)), some (.inl (nI w)), some (.inl (nI i)), some (.inl (nI (nzA g i))), o5, o6, o7] [] M3 Q := by
          intro M3 o5 s3 e50 e49 hM3
          refine b_M_tour_233 _ _ _ _ _ _ _ ?_
          have hM4 : MR g (stF, rs.2.1, hBear rs.2.2.1 (nzA g i) (g 31 15), rs.2.2.2) (mset M3 31 23 (nI (nzA g i))) := by
            refine hM3.hd (rs := (stF, rs.2.1, _, rs.2.2.2)) (sT.set 23 _ (by omega) (by omega)) (h' := hBear rs.2.2.1 (nzA g i) (g 31 15)) ?_
            obtain ⟨-, -, ⟨a1, a2, a3, a4⟩, -, -⟩ := hM3
            unfold HM
            simp only [mset_eq, upd]
            refine ⟨a1, a2, ?_, a4⟩
            have : (hBear rs.2.2.1 (nzA g i) (g 31 15)).2.2.1 = nzA g i := by
              unfold hBear
              split
              · assumption
              · rfl
            rw [this]
            rfl
          have s4 : sR (mset (mset M1 31 32 (nI e)) 31 35 (M1 31 35 + 1)) (mset M3 31 23 (nI (nzA g i))) := s3.tr (sR.set31 23 _ (by omega))
          have hb4 : rsB ((stF, rs.2.1, hBear rs.2.2.1 (nzA g i) (g 31 15), rs.2.2.2) : RS) := ⟨hstF2, hb.2.1, hB_bear hb.2.2.1 hnz, hb.2.2.2⟩
          refine m_tour_take (stF := stF) (gv := gv) hW hp h19 hmis (by omega) (by omega) _ (fun j' h1 h2 h3 => (hgv j' h1 (by omega) h3).1) 8 0 _ _ _ _ _ (by omega) hM4 (hX2.sR s4) hb4 (by show rs.2.2.2.1 + 8 * (4 * (e - i)) < 2 ^ 20; omega) (fun j' _ _ _ => rfl) (fun j' _ _ hh => hh) (fun j' h1 h2 => ?_) (fun j' h1 h2 h3 => ?_) rfl (fun M' s5 hM5 hX5 hb5 h505 o4 o7 => ?_)
          · rw [mset_ne _ _ _ (by omega), e50, h50 j' h1 h2]
            have e1 : decide (gv (plc g j') < 0) = false := by simp
            rw [e1, Bool.and_false]
            rfl
          · rw [mset_ne _ _ _ (by omega), e49]
            exact (hgv j' h1 (by omega) h3).2
          · refine m_tour_end hW hp (by omega) (by omega) hM5 hb5 h505 _ _ _ (fun M6 s6 hM6 => ?_)
            obtain ⟨q1, q2, q3⟩ := f32 M6 (s4.tr (s5.tr s6))
            exact k1 M6 (sM2.tr (sU.ofR (s4.tr (s5.tr s6)))) hM6 q1 q2 q3
        have eN : mset (mset M1 31 32 (nI e)) 31 35 (M1 31 35 + 1) 34 (Int32.toNatClampNeg (nI (kdA g i))) = nI (nzA g i) := by
          rw [nI_clamp (by omega)]
          exact hM2.1.at 34 (by omega) (by omega) (by omega) _
        have eH : mset (mset M1 31 32 (nI e)) 31 35 (M1 31 35 + 1) 31 23 = nI rs.2.2.1.2.2.1 := hM2.2.2.1.2.2.1
        have e15 : mset (mset M1 31 32 (nI e)) 31 35 (M1 31 35 + 1) 31 15 = nI (g 31 15) := hM2.1.2.2.2 15 (by omega) (by omega)
        have hh4 := hb.2.2.1.2.2
        have e50 : mset (mset M1 31 32 (nI e)) 31 35 (M1 31 35 + 1) 50 = M1 50 := by rw [mset_ne _ _ _ (by omega), mset_ne _ _ _ (by omega)]
        have e49 : mset (mset M1 31 32 (nI e)) 31 35 (M1 31 35 + 1) 49 = M1 49 := by rw [mset_ne _ _ _ (by omega), mset_ne _ _ _ (by omega)]
        generalize mset (mset M1 31 32 (nI e)) 31 35 (M1 31 35 + 1) = M2 at *
        refine c_M_kindAt (g := sG g 41 rs.2.1) hM2.1 (hW2 rs hb) hi ⟨vp_in_nI hk (by omega), fun c1 => ?_, fun c1 => ?_⟩
        · have c1 : M2 31 23 = M2 34 (Int32.toNatClampNeg (nI (kdA g i))) := c1
          rw [eN, eH, nI_eq (by omega) (show nzA g i < 2 ^ 31 by have : nzA g i ≤ 2 := hnz; omega)] at c1
          show JE E (d + 3) n_M_tour 233 [some (.inr 31), some (.inl (nI e)), some (.inl (nI w)), some (.inl (nI i)), some (.inl (M2 34 (Int32.toNatClampNeg (nI (kdA g i))))), _, _, _] [] M2 Q
          rw [eN]
          refine go M2 _ sR.rf e50 e49 ?_
          have e1 : hBear rs.2.2.1 (nzA g i) (g 31 15) = rs.2.2.1 := by
            unfold hBear
            rw [if_pos c1]
          rw [e1]
          exact hM2
        · have c1 : ¬ M2 31 23 = M2 34 (Int32.toNatClampNeg (nI (kdA g i))) := c1
          rw [eN, eH, nI_eq (by omega) (show nzA g i < 2 ^ 31 by have : nzA g i ≤ 2 := hnz; omega)] at c1
          show JE E (d + 3) n_M_tour 233 [some (.inr 31), some (.inl (nI e)), some (.inl (nI w)), some (.inl (nI i)), some (.inl (M2 34 (Int32.toNatClampNeg (nI (kdA g i))))), _, _, _] [] (mset M2 31 24 (M2 31 24 + M2 31 15)) Q
          rw [eN, e15]
          refine go _ _ (sR.set31 24 _ (by omega)) (by rw [mset_ne _ _ _ (by omega)]; exact e50) (by rw [mset_ne _ _ _ (by omega)]; exact e49) ?_
          have e1 : hBear rs.2.2.1 (nzA g i) (g 31 15) = ((hAdd rs.2.2.1 (g 31 15)).1, (hAdd rs.2.2.1 (g 31 15)).2.1, nzA g i, (hAdd rs.2.2.1 (g 31 15)).2.2.2) := by
            unfold hBear
            rw [if_neg c1]
            rfl
          rw [e1]
          exact hM2.hd (sT.set 24 _ (by omega) (by omega)) (hM2.2.2.1.add _)
      · rw [zero_nI, nI_eq (by omega) (by omega)] at c2
        have eT : toR g i e rs = (0, (stF, rs.2)) := by
          unfold toR
          rw [hstF, if_neg (by omega)]
        rw [eT] at k1
        obtain ⟨q1, q2, q3⟩ := f32 _ sR.rf
        exact k1 rfl _ sM2 hM2 q1 q2 q3
    | succ n ih =>
      intro j w gv M1 o4 o5 o6 o7 hj hij hw hM1 s1 e31 h50 hgv hfin
      have hpj := hW.2.2.2.2.2.2.2.2 j (by omega)
      have hb1 : rsB ((stF, rs.2) : RS) := ⟨hstF2, hb.2.1, hb.2.2.1, hb.2.2.2⟩
      have m42 : ∀ j, M1 42 j = nI (g 42 j) := fun j => hM1.1.at 42 (by omega) (by omega) (by omega) j
      have h48 : ∀ p, M1 48 p = nI (stF p) := hM1.2.1
      have hst := hstF2 (plc g j)
      have v1 : vp_in (nI j) 10 := vp_in_nI (by omega) (by omega)
      have v2 : vp_in (nI (plc g j)) 10 := vp_in_nI (by omega) (by omega)
      rw [giF] at hfin
      refine b_M_tour_98 _ _ _ _ _ _ _ ⟨fun c1 => absurd c1 (nI_ge (by omega) (by omega)), fun _ => ?_⟩
      simp (disch := omega) only [nI_clamp, m42, rem16]
      rw [show g 42 j % 16 = plc g j from rfl, h48]
      refine ⟨v1, nz16, v2, fun c3 => ?_, fun c3 => ?_⟩
      · rw [zero_nI, nI_eq (by omega) (by omega)] at c3
        rw [if_pos c3] at hfin
        rw [show M1 31 32 = nI i by rw [e31]; exact h32]
        have hne : ∀ j', i ≤ j' → j' < j → plc g j' ≠ plc g j := fun j' _ h2 => hp.1 j' j h2 (by omega)
        refine c_M_gives (gv := gv) hM1 hW hb1 (by omega) hij (by omega) hgv ?_
        have hsw : swP g rs.2.1 (usN g stF gv i j) (kdA g j) ≤ 8 := (fst_le _ 8 0).2
        rw [show g 38 (plc g j) = kdA g j from rfl]
        have e49 : mset M1 49 (plc g j) (e8 (swP g rs.2.1 (usN g stF gv i j) (kdA g j))) 49 (plc g j) = e8 (swP g rs.2.1 (usN g stF gv i j) (kdA g j)) := by
          rw [mset_eq]; exact if_pos rfl
        refine ⟨v2, v2, ?_⟩
        show (mset M1 49 (plc g j) (e8 (swP g rs.2.1 (usN g stF gv i j) (kdA g j))) 49 (plc g j) = -1 → _) ∧ (¬ mset M1 49 (plc g j) (e8 (swP g rs.2.1 (usN g stF gv i j) (kdA g j))) 49 (plc g j) = -1 → _)
        rw [e49]
        refine ⟨fun c4 => ⟨z01_0, ?_⟩, fun c4 => ?_⟩
        · rw [e8_none hsw] at c4
          rw [if_neg (by omega)] at hfin
          have hwp : 0 < wnC g stF i e := cnt_pos.mpr ⟨j, hij, by omega, by simp [c3]⟩
          have eT : toR g i e rs = (plc g j + 1, (stF, rs.2)) := by
            unfold toR
            rw [hstF, if_pos hwp, ← hfin, if_neg (by omega)]
          rw [eT] at k0
          refine k0 (by omega) _ (((sU.ofR s1).tr (sU.ofR (sR.set 49 _ _ (by omega)))).tr (sU.set31 36 _ (by omega))) ((hM1.set 49 _ _ (by omega)).set 31 36 _ (by omega)) ?_ ?_ ?_
          · rw [mset_eq]
            show (if 32 = 36 then _ else _) = _
            rw [if_neg (by omega), mset_ne _ _ _ (by omega), e31]; exact h32
          · rw [mset_eq]
            show (if 35 = 36 then _ else _) = _
            rw [if_neg (by omega), mset_ne _ _ _ (by omega), e31]; exact h35
          · rw [mset_eq]
            exact if_pos rfl
        · rw [e8_none hsw] at c4
          have hlt : swP g rs.2.1 (usN g stF gv i j) (kdA g j) < 8 := by omega
          rw [if_pos hlt] at hfin
          refine b_M_tour_167 _ _ _ _ _ _ _ ?_
          rw [nI_1]
          refine ih (j + 1) w _ _ _ _ _ _ (by omega) (by omega) hw (hM1.set 49 _ _ (by omega)) (s1.tr (sR.set 49 _ _ (by omega))) ((mset_ne _ _ _ (by omega)).trans e31) (fun j' h1 h2 => ?_) (fun j' h1 h2 h3 => ?_) hfin
          · rw [mset_ne _ _ _ (by omega)]
            exact h50 j' h1 h2
          · by_cases hjj : j' = j
            · subst hjj
              rw [fs_eq, mset_eq]
              refine ⟨hlt, ?_⟩
              unfold upd
              rw [if_pos rfl]
              exact if_pos hlt
            · have hn2 := hne j' h1 (by omega)
              rw [fs_ne _ _ hn2, mset_eq]
              unfold upd
              rw [if_neg hn2]
              exact hgv j' h1 (by omega) h3
      · rw [zero_nI, nI_eq (by omega) (by omega)] at c3
        rw [if_neg c3] at hfin
        refine b_M_tour_167 _ _ _ _ _ _ _ ?_
        rw [nI_1]
        refine ih (j + 1) w gv M1 _ _ _ _ (by omega) (by omega) hw hM1 s1 e31 h50 (fun j' h1 h2 h3 => ?_) hfin
        by_cases hjj : j' = j
        · subst hjj
          exact absurd h3 c3
        · exact hgv j' h1 (by omega) h3
  -- places behind a missing one are lost
  have L28 : ∀ (n j w : Nat) (st : Nat → Nat) (M1 : Mem) (o4 o5 o6 o7 : Option V), j + n = e → i ≤ j → w ≤ j → (∀ p, st p ≤ 2) → loF g n j st = stF → w + cnt (fun j => stF (plc g j) == 0) n j = wnC g stF i e → MR g (st, rs.2) M1 → sR M M1 → M1 31 = M 31 → (∀ j', i ≤ j' → j' < j → M1 50 (plc g j') = 0) → JE E (d + 3) n_M_tour 28 [some (.inr 31), some (.inl (nI e)), some (.inl (nI w)), some (.inl (nI j)), o4, o5, o6, o7] [] M1 Q := by
    intro n
    induction n with
    | zero =>
      intro j w st M1 o4 o5 o6 o7 hj hij hw hst hfin hcc hM1 s1 e31 h50
      rw [loF] at hfin
      rw [hfin] at hM1
      rw [cnt, Nat.add_zero] at hcc
      refine b_M_tour_28 _ _ _ _ _ _ _ ⟨fun _ => ?_, fun c1 => absurd (nI_le (by omega) (by omega)) c1⟩
      rw [show M1 31 32 = nI i by rw [e31]; exact h32]
      exact L98 (e - i) i w (fun _ => 0) M1 _ _ _ _ (by omega) (by omega) hcc hM1 s1 e31 (fun j' h1 h2 => h50 j' h1 (by omega)) (fun j' h1 h2 => by omega) rfl
    | succ n ih =>
      intro j w st M1 o4 o5 o6 o7 hj hij hw hst hfin hcc hM1 s1 e31 h50
      have hpj := hW.2.2.2.2.2.2.2.2 j (by omega)
      have hb1 : rsB ((st, rs.2) : RS) := ⟨hst, hb.2.1, hb.2.2.1, hb.2.2.2⟩
      have m42 : ∀ j, M1 42 j = nI (g 42 j) := fun j => hM1.1.at 42 (by omega) (by omega) (by omega) j
      have v1 : vp_in (nI j) 10 := vp_in_nI (by omega) (by omega)
      have v2 : vp_in (nI (plc g j)) 10 := vp_in_nI (by omega) (by omega)
      rw [loF] at hfin
      rw [cnt_succ_if] at hcc
      have L61 : ∀ (st' : Nat → Nat) (M2 : Mem), (∀ p, st' p ≤ 2) → loF g n (j + 1) st' = stF → MR g (st', rs.2) M2 → sR M M2 → M2 31 = M 31 → (∀ j', i ≤ j' → j' < j → M2 50 (plc g j') = 0) → JE E (d + 3) n_M_tour 61 [some (.inr 31), some (.inl (nI e)), some (.inl (nI w)), some (.inl (nI j)), some (.inl (nI (plc g j))), o5, o6, o7] [] M2 Q := by
        intro st' M2 hst' hfin' hM2 s2 e31' h50'
        have h48 : ∀ p, M2 48 p = nI (st' p) := hM2.2.1
        have hk' : stF (plc g j) = st' (plc g j) := by rw [← hfin']; exact loF_keep hp n (j + 1) _ j (by omega) (by omega)
        have hs2 := hst' (plc g j)
        have L79 : ∀ w', w' ≤ j + 1 → w' + cnt (fun j => stF (plc g j) == 0) n (j + 1) = wnC g stF i e → JE E (d + 3) n_M_tour 79 [some (.inr 31), some (.inl (nI e)), some (.inl (nI w')), some (.inl (nI j)), some (.inl (nI (plc g j))), o5, o6, o7] [] M2 Q := by
          intro w' hw' hcc'
          refine b_M_tour_79 _ _ _ _ _ _ _ ⟨v2, z01_0, ?_⟩
          rw [nI_1, nI_clamp (by omega)]
          refine ih (j + 1) w' st' _ _ _ _ _ (by omega) (by omega) hw' hst' hfin' hcc' (hM2.set 50 _ _ (by omega)) (s2.tr (sR.set 50 _ _ (by omega))) ((mset_ne _ _ _ (by omega)).trans e31') (fun j' h1 h2 => ?_)
          rw [mset_eq]
          unfold upd
          split
          · rfl
          · next hne =>
            by_cases hjj : j' = j
            · exact absurd (by rw [hjj]) hne
            · exact h50' j' h1 (by omega)
        refine b_M_tour_61 _ _ _ _ _ _ _ ⟨v2, fun c3 => ?_, fun c3 => ?_⟩
        · rw [nI_clamp (by omega), h48, zero_nI, nI_eq (by omega) (by omega)] at c3
          have e0 : (stF (plc g j) == 0) = false := by rw [hk']; simpa using c3
          rw [e0] at hcc
          have := L79 (w + 0) (by omega) hcc
          rw [← nI_add] at this
          exact this
        · rw [nI_clamp (by omega), h48, zero_nI, nI_eq (by omega) (by omega)] at c3
          have e0 : (stF (plc g j) == 0) = true := by rw [hk']; simpa using c3
          rw [e0] at hcc
          have := L79 (w + 1) (by omega) hcc
          rw [← nI_1] at this
          exact this
      refine b_M_tour_28 _ _ _ _ _ _ _ ⟨fun c1 => absurd c1 (nI_ge (by omega) (by omega)), fun _ => ?_⟩
      simp (disch := omega) only [nI_clamp, m42, rem16]
      rw [show g 42 j % 16 = plc g j from rfl]
      refine ⟨v1, nz16, c_M_isBehindMissing hM1 hW hb1 (by omega) ⟨fun c2 => ?_, fun c2 => ⟨v2, ?_⟩⟩⟩
      · rw [b2_z] at c2
        have c2 : lmB g st (plc g j) = false := c2
        rw [c2, if_neg (by simp)] at hfin
        exact L61 st M1 hst hfin hM1 s1 e31 h50
      · rw [b2_nz] at c2
        have c2 : lmB g st (plc g j) = true := c2
        rw [if_pos c2] at hfin
        refine L61 _ _ (fun p => ?_) hfin (hM1.st (plc g j) 2) (s1.tr (sR.set 48 _ _ (by omega))) ((mset_ne _ _ _ (by omega)).trans e31) (fun j' h1 h2 => ?_)
        · unfold fs
          split
          · omega
          · exact hst p
        · rw [mset_ne _ _ _ (by omega)]
          exact h50 j' h1 h2
  -- the end of the tour
  have L7 : ∀ (n j : Nat) (o2 o3 o4 o5 o6 o7 : Option V), j + n = pln g → i < j → e = fst (fun j => bgn g j) n j → JE E (d + 3) n_M_tour 7 [some (.inr 31), some (.inl (nI j)), o2, o3, o4, o5, o6, o7] [] M Q := by
    have fin : ∀ (j : Nat) (o4 o5 o6 o7 : Option V), e = j → JE E (d + 3) n_M_tour 28 [some (.inr 31), some (.inl (nI j)), some (.inl 0), some (.inl (M 31 32)), o4, o5, o6, o7] [] M Q := by
      intro j o4 o5 o6 o7 hej
      rw [h32, zero_nI, ← hej]
      exact L28 (e - i) i 0 rs.1 M _ _ _ _ (by omega) (by omega) (by omega) hb.1 hstF (by rw [Nat.zero_add]; rfl) hM sR.rf rfl (fun j' h1 h2 => by omega)
    intro n
    induction n with
    | zero =>
      intro j o2 o3 o4 o5 o6 o7 hj hij hej
      refine b_M_tour_7 _ _ _ _ _ _ _ (c_M_begins1 (g := sG g 41 rs.2.1) hM.1 (hW2 rs hb) (show j ≤ pln g by omega) ⟨fun _ => fin j _ _ _ _ hej, fun c1 => ?_⟩)
      rw [b2_z] at c1
      have c1 : (decide (pln g ≤ j) || bgn g j) = false := c1
      simp at c1
      omega
    | succ n ih =>
      intro j o2 o3 o4 o5 o6 o7 hj hij hej
      rw [fst] at hej
      refine b_M_tour_7 _ _ _ _ _ _ _ (c_M_begins1 (g := sG g 41 rs.2.1) hM.1 (hW2 rs hb) (show j ≤ pln g by omega) ⟨fun c1 => ?_, fun c1 => ?_⟩)
      · rw [b2_nz] at c1
        have c1 : (decide (pln g ≤ j) || bgn g j) = true := c1
        have c2 : bgn g j = true := by
          simp only [Bool.or_eq_true, decide_eq_true_eq] at c1
          rcases c1 with q | q
          · omega
          · exact q
        rw [if_pos c2] at hej
        exact fin j _ _ _ _ hej
      · rw [b2_z] at c1
        have c1 : (decide (pln g ≤ j) || bgn g j) = false := c1
        have c2 : bgn g j = false := by
          simp only [Bool.or_eq_false_iff] at c1
          exact c1.2
        rw [c2, if_neg (by simp)] at hej
        rw [nI_1]
        exact ih (j + 1) _ _ _ _ _ _ (by omega) (by omega) hej
  refine CE_of rfl (b_M_tour_0 ?_)
  rw [h32, nI_1]
  exact L7 (pln g - (i + 1)) (i + 1) _ _ _ _ _ _ (by omega) (by omega) he.symm
end RW
