/-! The reference: a tour, whole. -/
section RV
variable {E : Env0} {d : Nat} {M : Mem} {Q : Int32 → Mem → Prop} {g : GS} {rs : RS}
theorem toF_other {g : GS} {gv : Nat → Nat} {s : Nat} : ∀ (n j : Nat) (rs : RS) (p : Nat), gv p ≠ s → (toF g gv s n j rs).1 p = rs.1 p
  | 0, j, rs, p, _ => rfl
  | n + 1, j, rs, p, h => by
    rw [toF, toF_other n (j + 1) _ p h]
    split
    · next hh =>
      unfold tpS
      dsimp only
      split
      · rfl
      · exact fs_ne _ _ (fun q => h (by rw [q]; exact hh.2))
    · rfl
theorem tpS_st {g : GS} {s p : Nat} {rs : RS} (q : Nat) : (tpS g s p rs).1 q = if q = p then (if (tpF g s (g 31 19 + 1) rs.2).1 then rs.1 p else 2) else rs.1 q := by
  unfold tpS
  dsimp only
  split
  · split
    · next h => rw [h]
    · rfl
  · unfold fs
    rfl
theorem m_tour_take {i e : Nat} (hW : Wk g) (hp : Wp g) (h19 : g 31 19 ≤ 3) (hmis : ∀ n, g 43 n ≤ 1) (hie : i < e) (he : e ≤ pln g) {stF gv : Nat → Nat} {rsT : RS} (o2 : Option V) (hgv8 : ∀ j, i ≤ j → j < e → stF (plc g j) = 0 → gv (plc g j) < 8) :
    ∀ (n s : Nat) (rs : RS) (M : Mem) (o4 o6 o7 : Option V), s + n = 8 → MR g rs M → MX g M → rsB rs → rs.2.2.2.1 + n * (4 * (e - i)) < 2 ^ 20 → (∀ j, i ≤ j → j < e → s ≤ gv (plc g j) → rs.1 (plc g j) = stF (plc g j)) → (∀ j, i ≤ j → j < e → rs.1 (plc g j) = 0 → stF (plc g j) = 0) → (∀ j, i ≤ j → j < e → M 50 (plc g j) = b2 (rs.1 (plc g j) == 0 && decide (gv (plc g j) < s))) → (∀ j, i ≤ j → j < e → stF (plc g j) = 0 → M 49 (plc g j) = nI (gv (plc g j))) → taF g gv (usN g stF gv i e) i e n s rs = rsT →
      (∀ M', sR M M' → MR g rsT M' → MX g M' → rsB rsT → (∀ j, i ≤ j → j < e → M' 50 (plc g j) = b2 (rsT.1 (plc g j) == 0)) → ∀ o4 o7, JE E (d + 3) n_M_tour 430 [some (.inr 31), some (.inl (nI e)), o2, some (.inl (nI i)), o4, some (.inl 0), some (.inl (nI i)), o7] [] M' Q) →
      JE E (d + 3) n_M_tour 242 [some (.inr 31), some (.inl (nI e)), o2, some (.inl (nI i)), o4, some (.inl (nI s)), o6, o7] [] M Q := by
  have hn := hW.2.1
  have hp10 := hW.1
  intro n
  induction n with
  | zero =>
    intro s rs M o4 o6 o7 hs hM hX hb htk I1 I4 I2 I3 hT k
    rw [taF] at hT
    subst hT
    refine b_M_tour_242 _ _ _ _ _ _ _ ⟨fun _ => k M sR.rf hM hX hb (fun j h1 h2 => ?_) _ _, fun c1 => absurd (nI_le (a := 8) (by omega) (by omega)) c1⟩
    rw [I2 j h1 h2]
    by_cases hz : rs.1 (plc g j) = 0
    · have := hgv8 j h1 h2 (I4 j h1 h2 hz)
      have e1 : decide (gv (plc g j) < s) = true := by simp; omega
      rw [e1, Bool.and_true]
    · have e1 : (rs.1 (plc g j) == 0) = false := by simpa using hz
      rw [e1]
      rfl
  | succ n ih =>
    intro s rs M o4 o6 o7 hs hM hX hb htk I1 I4 I2 I3 hT k
    rw [Nat.succ_mul n (4 * (e - i))] at htk
    have m42 : ∀ j, M 42 j = nI (g 42 j) := fun j => hM.1.at 42 (by omega) (by omega) (by omega) j
    have hus : usN g rs.1 gv i e s = usN g stF gv i e s := by
      apply usN_cong
      intro j h1 h2
      by_cases hz : gv (plc g j) = s
      · rw [I1 j h1 h2 (by omega)]
      · have e1 : (gv (plc g j) == s) = false := by simpa using hz
        rw [e1, Bool.and_false, Bool.and_false]
    rw [taF] at hT
    have next : ∀ (rs' : RS) (M' : Mem) (o6 o7 : Option V), sR M M' → MR g rs' M' → MX g M' → rsB rs' → rs'.2.2.2.1 ≤ rs.2.2.2.1 + 4 * (e - i) → (∀ j, i ≤ j → j < e → s + 1 ≤ gv (plc g j) → rs'.1 (plc g j) = stF (plc g j)) → (∀ j, i ≤ j → j < e → rs'.1 (plc g j) = 0 → stF (plc g j) = 0) → (∀ j, i ≤ j → j < e → M' 50 (plc g j) = b2 (rs'.1 (plc g j) == 0 && decide (gv (plc g j) < s + 1))) → (∀ j, i ≤ j → j < e → stF (plc g j) = 0 → M' 49 (plc g j) = nI (gv (plc g j))) → taF g gv (usN g stF gv i e) i e n (s + 1) rs' = rsT → JE E (d + 3) n_M_tour 418 [some (.inr 31), some (.inl (nI e)), o2, some (.inl (nI i)), o4, some (.inl (nI s)), o6, o7] [] M' Q := by
      intro rs' M' o6 o7 s1 hM' hX' hb' htk' I1' I4' I2' I3' hT'
      refine b_M_tour_418 _ _ _ _ _ _ _ ?_
      rw [nI_1]
      exact ih (s + 1) rs' M' _ _ _ (by omega) hM' hX' hb' (by omega) I1' I4' I2' I3' hT' (fun M2 s2 => k M2 (s1.tr s2))
    refine b_M_tour_242 _ _ _ _ _ _ _ ⟨fun c1 => absurd c1 (nI_ge (b := 8) (by omega) (by omega)), fun _ => ?_⟩
    have L255 : ∀ (m j c : Nat), j + m = e → i ≤ j → c ≤ 10 + j → c + cnt (fun j' => rs.1 (plc g j') == 0 && gv (plc g j') == s) m j = usN g rs.1 gv i e s → JE E (d + 3) n_M_tour 255 [some (.inr 31), some (.inl (nI e)), o2, some (.inl (nI i)), o4, some (.inl (nI s)), some (.inl (nI c)), some (.inl (nI j))] [] M Q := by
      intro m
      induction m with
      | zero =>
        intro j c hj hij hc hcc
        rw [cnt, Nat.add_zero, hus] at hcc
        refine b_M_tour_255 _ _ _ _ _ _ _ ⟨fun _ => ⟨fun c2 => ?_, fun c2 => ?_⟩, fun c1 => absurd (nI_le (by omega) (by omega)) c1⟩
        · rw [zero_nI, nI_eq (by omega) (by omega)] at c2
          rw [if_pos (by omega)] at hT
          rw [show (20 : Int32) * nI s = nI (20 * s) from pk_mul 20 s]
          refine c_M_goes (x := 20 * s) (y := 0) hM.2.2.1 hb.2.2.1 (by omega) (by omega) (fun M1 s1 H1 => ?_)
          have hM1 := hM.hd s1 H1
          have hb1 : rsB (rsH rs (hGo rs.2.2.1 (20 * s) 0)) := ⟨hb.1, hb.2.1, hB_go hb.2.2.1 (by omega) (by omega), hb.2.2.2⟩
          have L354 : ∀ (m j : Nat) (rs3 : RS) (M3 : Mem) (o6 : Option V), j + m = e → i ≤ j → sR M M3 → MR g rs3 M3 → MX g M3 → rsB rs3 → rs3.2.2.2.1 + 4 * m ≤ rs.2.2.2.1 + 4 * (e - i) → (∀ j', i ≤ j' → j' < e → (s < gv (plc g j') ∨ (s ≤ gv (plc g j') ∧ j ≤ j')) → rs3.1 (plc g j') = stF (plc g j')) → (∀ j', i ≤ j' → j' < e → rs3.1 (plc g j') = 0 → stF (plc g j') = 0) → (∀ j', i ≤ j' → j' < e → M3 50 (plc g j') = b2 (rs3.1 (plc g j') == 0 && decide (gv (plc g j') < (if j' < j then s + 1 else s)))) → (∀ j', i ≤ j' → j' < e → stF (plc g j') = 0 → M3 49 (plc g j') = nI (gv (plc g j'))) → taF g gv (usN g stF gv i e) i e n (s + 1) (toF g gv s m j rs3) = rsT → JE E (d + 3) n_M_tour 354 [some (.inr 31), some (.inl (nI e)), o2, some (.inl (nI i)), o4, some (.inl (nI s)), o6, some (.inl (nI j))] [] M3 Q := by
            intro m
            induction m with
            | zero =>
              intro j rs3 M3 o6 hj hij s3 hM3 hX3 hb3 htk3 J1 J4 J2 J3 hT3
              rw [toF] at hT3
              refine b_M_tour_354 _ _ _ _ _ _ _ ⟨fun _ => ?_, fun c1 => absurd (nI_le (by omega) (by omega)) c1⟩
              refine next rs3 M3 _ _ s3 hM3 hX3 hb3 (by omega) (fun j' h1 h2 h3 => J1 j' h1 h2 (Or.inl (by omega))) J4 (fun j' h1 h2 => ?_) J3 hT3
              rw [J2 j' h1 h2, if_pos (by omega)]
            | succ m ihm =>
              intro j rs3 M3 o6 hj hij s3 hM3 hX3 hb3 htk3 J1 J4 J2 J3 hT3
              have hpj := hW.2.2.2.2.2.2.2.2 j (by omega)
              have hst := hb3.1 (plc g j)
              have m42' : ∀ j, M3 42 j = nI (g 42 j) := fun j => hM3.1.at 42 (by omega) (by omega) (by omega) j
              have v1 : vp_in (nI j) 10 := vp_in_nI (by omega) (by omega)
              have v2 : vp_in (nI (plc g j)) 10 := vp_in_nI (by omega) (by omega)
              have hne : ∀ j', j' ≠ j → j' < e → plc g j' ≠ plc g j := by
                intro j' h1 h2 z
                rcases Nat.lt_or_gt_of_ne h1 with q | q
                · exact hp.1 j' j q (by omega) z
                · exact hp.1 j j' q (by omega) z.symm
              rw [toF] at hT3
              have no : ¬ (rs3.1 (plc g j) = 0 ∧ gv (plc g j) = s) → JE E (d + 3) n_M_tour 412 [some (.inr 31), some (.inl (nI e)), o2, some (.inl (nI i)), o4, some (.inl (nI s)), o6, some (.inl (nI j))] [] M3 Q := by
                intro hno
                rw [if_neg hno] at hT3
                refine b_M_tour_412 _ _ _ _ _ _ _ ?_
                rw [nI_1]
                refine ihm (j + 1) rs3 M3 _ (by omega) (by omega) s3 hM3 hX3 hb3 (by omega) (fun j' h1 h2 h3 => J1 j' h1 h2 (by omega)) J4 (fun j' h1 h2 => ?_) J3 hT3
                rw [J2 j' h1 h2]
                by_cases hjj : j' = j
                · subst hjj
                  rw [if_neg (by omega), if_pos (by omega)]
                  by_cases hz : rs3.1 (plc g j') = 0
                  · have : gv (plc g j') ≠ s := fun q => hno ⟨hz, q⟩
                    have e1 : decide (gv (plc g j') < s) = decide (gv (plc g j') < s + 1) := by
                      simp only [decide_eq_decide]
                      omega
                    rw [e1]
                  · have e1 : (rs3.1 (plc g j') == 0) = false := by simpa using hz
                    rw [e1]
                    rfl
                · by_cases hlt : j' < j
                  · rw [if_pos hlt, if_pos (by omega)]
                  · rw [if_neg hlt, if_neg (by omega)]
              refine b_M_tour_354 _ _ _ _ _ _ _ ⟨fun c1 => absurd c1 (nI_ge (by omega) (by omega)), fun _ => ?_⟩
              simp (disch := omega) only [nI_clamp, m42', rem16]
              rw [show g 42 j % 16 = plc g j from rfl, hM3.2.1]
              refine ⟨v1, nz16, v2, fun c3 => ?_, fun c3 => ⟨v1, nz16, v2, fun c4 => ?_, fun c4 => ⟨v1, nz16, ?_⟩⟩⟩
              · rw [zero_nI, nI_eq (by omega) (by omega)] at c3
                exact no (fun q => c3 q.1)
              · rw [zero_nI, nI_eq (by omega) (by omega)] at c3
                have hg8 := hgv8 j hij (by omega) (J4 j hij (by omega) c3)
                rw [J3 j hij (by omega) (J4 j hij (by omega) c3), nI_eq (by omega) (by omega)] at c4
                exact no (fun q => c4 q.2)
              · rw [zero_nI, nI_eq (by omega) (by omega)] at c3
                have hF0 := J4 j hij (by omega) c3
                have hg8 := hgv8 j hij (by omega) hF0
                rw [J3 j hij (by omega) hF0, nI_eq (by omega) (by omega)] at c4
                rw [if_pos ⟨c3, c4⟩] at hT3
                have h49 : M3 49 (plc g j) = nI s := by rw [J3 j hij (by omega) hF0, c4]
                have h50 : M3 50 (plc g j) = 0 := by
                  rw [J2 j hij (by omega), if_neg (by omega), c4]
                  have e1 : decide (s < s) = false := by simp
                  rw [e1, Bool.and_false]
                  rfl
                have htb := tpS_b (g := g) (s := s) (p := plc g j) (m := rs3.2.2.2.1 + 4) h19 hb3 (Nat.le_refl _) (by omega)
                refine c_M_takes hM3 hX3 hb3 h19 hmis (by omega) (by omega) h49 h50 (fun M4 s4 hM4 h504 h494 => ?_)
                refine b_M_tour_412 _ _ _ _ _ _ _ ?_
                rw [nI_1]
                refine ihm (j + 1) _ M4 _ (by omega) (by omega) (s3.tr s4) hM4 (hX3.sR s4) htb.1 (by have := htb.2; omega) (fun j' h1 h2 h3 => ?_) (fun j' h1 h2 h3 => ?_) (fun j' h1 h2 => ?_) (fun j' h1 h2 h3 => ?_) hT3
                · have hjj : j' ≠ j := by
                    rintro rfl
                    omega
                  rw [tpS_st, if_neg (hne j' hjj h2)]
                  exact J1 j' h1 h2 (by omega)
                · rw [tpS_st] at h3
                  by_cases hjj : plc g j' = plc g j
                  · rw [hjj]
                    exact hF0
                  · rw [if_neg hjj] at h3
                    exact J4 j' h1 h2 h3
                · rw [h504, tpS_st]
                  by_cases hjj : j' = j
                  · subst hjj
                    rw [if_pos rfl, if_pos rfl, if_pos (show j' < j' + 1 by omega), c4]
                    have e1 : decide (s < s + 1) = true := by simp
                    rw [e1, Bool.and_true]
                    cases (tpF g s (g 31 19 + 1) rs3.2).1 with
                    | true => simp [c3]
                    | false => rfl
                  · rw [if_neg (hne j' hjj h2), if_neg (hne j' hjj h2), J2 j' h1 h2]
                    by_cases hlt : j' < j
                    · rw [if_pos hlt, if_pos (by omega)]
                    · rw [if_neg hlt, if_neg (by omega)]
                · rw [h494]
                  exact J3 j' h1 h2 h3
          refine L354 (e - i) i _ M1 _ (by omega) (by omega) (sR.ofT s1) hM1 (hX.sR (sR.ofT s1)) hb1 (Nat.le_refl _) (fun j' h1 h2 h3 => I1 j' h1 h2 (by omega)) I4 (fun j' h1 h2 => ?_) (fun j' h1 h2 h3 => ?_) hT
          · rw [s1.1 50 (by omega), if_neg (by omega)]
            exact I2 j' h1 h2
          · rw [s1.1 49 (by omega)]
            exact I3 j' h1 h2 h3
        · rw [zero_nI, nI_eq (by omega) (by omega)] at c2
          rw [if_neg (by omega)] at hT
          refine next rs M _ _ sR.rf hM hX hb (by omega) (fun j' h1 h2 h3 => I1 j' h1 h2 (by omega)) I4 (fun j' h1 h2 => ?_) I3 hT
          rw [I2 j' h1 h2]
          by_cases hz : rs.1 (plc g j') = 0 ∧ gv (plc g j') = s
          · exfalso
            have : 0 < usN g rs.1 gv i e s := by
              unfold usN
              exact cnt_pos.mpr ⟨j', h1, by omega, by simp [hz.1, hz.2]⟩
            omega
          · by_cases hz1 : rs.1 (plc g j') = 0
            · have e1 : decide (gv (plc g j') < s) = decide (gv (plc g j') < s + 1) := by
                simp only [decide_eq_decide]
                have : gv (plc g j') ≠ s := fun q => hz ⟨hz1, q⟩
                omega
              rw [e1]
            · have e1 : (rs.1 (plc g j') == 0) = false := by simpa using hz1
              rw [e1]
              rfl
      | succ m ihm =>
        intro j c hj hij hc hcc
        have hpj := hW.2.2.2.2.2.2.2.2 j (by omega)
        have hst := hb.1 (plc g j)
        rw [cnt_succ_if] at hcc
        have v1 : vp_in (nI j) 10 := vp_in_nI (by omega) (by omega)
        have v2 : vp_in (nI (plc g j)) 10 := vp_in_nI (by omega) (by omega)
        have no : (rs.1 (plc g j) == 0 && gv (plc g j) == s) = false → JE E (d + 3) n_M_tour 255 [some (.inr 31), some (.inl (nI e)), o2, some (.inl (nI i)), o4, some (.inl (nI s)), some (.inl (nI c + 0)), some (.inl (nI j + 1))] [] M Q := by
          intro e0
          rw [e0] at hcc
          have := ihm (j + 1) (c + 0) (by omega) (by omega) (by omega) hcc
          rw [← nI_1, ← nI_add] at this
          exact this
        refine b_M_tour_255 _ _ _ _ _ _ _ ⟨fun c1 => absurd c1 (nI_ge (by omega) (by omega)), fun _ => ?_⟩
        simp (disch := omega) only [nI_clamp, m42, rem16]
        rw [show g 42 j % 16 = plc g j from rfl, hM.2.1, I2 j hij (by omega)]
        refine ⟨v1, nz16, v2, fun c3 => no ?_, fun c3 => ⟨v1, nz16, v2, fun c4 => no ?_, fun c4 => ⟨v1, nz16, v2, fun c5 => no ?_, fun c5 => ?_⟩⟩⟩
        · rw [zero_nI, nI_eq (by omega) (by omega)] at c3
          rw [Bool.and_eq_false_iff]
          exact Or.inl (by simpa using c3)
        · rw [b2_nz] at c4
          simp only [Bool.and_eq_true, decide_eq_true_eq] at c4
          rw [Bool.and_eq_false_iff]
          refine Or.inr ?_
          simp
          omega
        · rw [zero_nI, nI_eq (by omega) (by omega)] at c3
          have hF0 := I4 j hij (by omega) c3
          have hg8 := hgv8 j hij (by omega) hF0
          rw [I3 j hij (by omega) hF0, nI_eq (by omega) (by omega)] at c5
          rw [Bool.and_eq_false_iff]
          exact Or.inr (by simpa using c5)
        · rw [zero_nI, nI_eq (by omega) (by omega)] at c3
          have hF0 := I4 j hij (by omega) c3
          have hg8 := hgv8 j hij (by omega) hF0
          rw [I3 j hij (by omega) hF0, nI_eq (by omega) (by omega)] at c5
          have e0 : (rs.1 (plc g j) == 0 && gv (plc g j) == s) = true := by simp [c3, c5]
          rw [e0] at hcc
          have := ihm (j + 1) (c + 1) (by omega) (by omega) (by omega) hcc
          rw [← nI_1, ← nI_1] at this
          exact this
    exact L255 (e - i) i 0 (by omega) (by omega) (by omega) (by rw [Nat.zero_add]; rfl)
end RV
