/-! The desk: a run, whole. -/
section DY
variable {E : Env0} {d : Nat} {M : Mem} {Q : Int32 → Mem → Prop} {g : GS} {rs : RS}
/-- what a run may change -/
def sF (M M' : Mem) : Prop := ∀ k, k ≠ 13 → k ≠ 26 → k ≠ 27 → k ≠ 29 → k ≠ 30 → M' k = M k
theorem sF.rf : sF M M := fun _ _ _ _ _ _ => rfl
theorem sF.tr {M1 M2 : Mem} (h1 : sF M M1) (h2 : sF M1 M2) : sF M M2 := fun k a b c d e => (h2 k a b c d e).trans (h1 k a b c d e)
theorem sF.ofD {M' : Mem} (h : sD M M') : sF M M' := fun k a b c _ _ => h.1 k a b c
theorem sF.ofP {M' : Mem} (h : sP M M') : sF M M' := fun k _ _ _ a b => h k a b
theorem sF.set26 (j : Nat) (x : Int32) : sF M (mset M 26 j x) := fun _ _ b _ _ _ => mset_ne M j x b
/-- cells of the run that a tour leaves -/
def s26 (M M' : Mem) : Prop := ∀ j, j < 10 ∨ j = 12 ∨ 15 < j → M' 26 j = M 26 j
theorem c_T_finishTour {i e : Nat} (hD : DT g rs M) (hX : DX g M) (hW : Wk g) (hp : Wp g) (hb : rsB rs) (h19 : g 31 19 ≤ 3) (hmis : ∀ n, g 43 n ≤ 1) (he : e ≤ pln g) (hie : i < e) (htk : rs.2.2.2.1 + 320 < 2 ^ 20) (h1 : ∀ j, i ≤ j → j < e → rs.1 (plc g j) ≠ 1)
    (k0 : (toR g i e rs).1 ≠ 0 → ∀ M', sF M M' → s26 M M' → DT g (toR g i e rs).2 M' → M' 26 13 = nI ((toR g i e rs).1 - 1) → Q 0 M')
    (k1 : (toR g i e rs).1 = 0 → ∀ M', sF M M' → s26 M M' → DT g (toR g i e rs).2 M' → M' 26 13 = M 26 13 → Q 1 M') : CE E (d + 4) n_T_finishTour [.inr 26, .inl (nI i), .inl (nI e)] M Q := by
  have hn := hW.2.1
  refine CE_of rfl (b_T_finishTour_0 _ _ (c_T_loseLatePlaces hD hW hb he (by omega) h1 (fun M1 s1 hD1 => ?_)))
  have hstF2 := loF_le (g := g) (e - i) i rs.1 hb.1
  have hne1 : ∀ j, i ≤ j → j < e → loF g (e - i) i rs.1 (plc g j) ≠ 1 := fun j a b => loF_ne1 _ _ _ _ (h1 j a b)
  have eT : toR g i e rs = toR g i e rs := rfl
  conv at eT => rhs; unfold toR
  generalize hstF : loF g (e - i) i rs.1 = stF at hD1 hstF2 hne1 eT
  have hb1 : rsB ((stF, rs.2) : RS) := ⟨hstF2, hb.2.1, hb.2.2.1, hb.2.2.2⟩
  refine c_T_hasWanted hD1 hW hb1 he (by omega) hne1 ⟨fun c2 => ?_, fun c2 => ⟨z01_1, ?_⟩⟩
  · rw [b2_nz] at c2
    have c2 : 0 < wnC g stF i e := of_decide_eq_true c2
    rw [if_pos c2] at eT
    refine c_T_giveSlots hD1 hW hp hb1 he (by omega) hne1 (fun hg M2 s2 => ⟨fun z => absurd rfl z, fun _ => ⟨z01_0, ?_⟩⟩) (fun hg M2 s2 h30 h29 => ⟨fun _ => ?_, fun z => absurd z (by decide)⟩)
    · have hg : (giF g stF rs.2.1 i (e - i) i (fun _ => 0)).1 ≠ 0 := hg
      rw [if_neg hg] at eT
      rw [eT] at k0
      refine k0 hg _ (((sF.ofD s1).tr (sF.ofP s2)).tr (sF.set26 13 _)) (fun j hj => ?_) ((hD1.sP s2).set 26 13 _ (by omega)) ?_
      · rw [mset_eq]
        show (if j = 13 then _ else _) = _
        rw [if_neg (by omega), s2 26 (by omega) (by omega), s1.2 j (by omega)]
      · rw [mset_eq]
        exact if_pos rfl
    · have hg : (giF g stF rs.2.1 i (e - i) i (fun _ => 0)).1 = 0 := hg
      rw [if_pos hg] at eT
      rw [eT] at k1
      have k1 := k1 rfl
      have hD2 := hD1.sP s2
      have hX1 := hX.sD s1
      have hX2 : DX g M2 := ⟨fun n hn => by rw [s2 28 (by omega) (by omega)]; exact hX1.1 n hn, by rw [s2 26 (by omega) (by omega)]; exact hX1.2⟩
      have hnz := (hW.2.2.2.1 _ (hW.kd (i := i) (by omega))).2.2.1
      have hb0 : rsB (rsH ((stF, rs.2) : RS) (hBear rs.2.2.1 (nzA g i) (g 31 15))) := ⟨hstF2, hb.2.1, hB_bear hb.2.2.1 hnz, hb.2.2.2⟩
      have hm : 8 * (4 * (e - i)) ≤ 320 := by omega
      have hta := taF_b h19 (giF g stF rs.2.1 i (e - i) i (fun _ => 0)).2 (usN g stF (giF g stF rs.2.1 i (e - i) i (fun _ => 0)).2 i e) i e 8 0 _ (by omega) hb0 (by show rs.2.2.2.1 + _ < _; omega)
      refine c_T_takeParts (gv := (giF g stF rs.2.1 i (e - i) i (fun _ => 0)).2) (u := usN g stF (giF g stF rs.2.1 i (e - i) i (fun _ => 0)).2 i e) hD2 hX2 hW hb1 h19 hmis he hie htk hne1 h29 (fun s hs => ⟨h30 s hs, Nat.le_trans (cnt_le _ _ _) (by omega)⟩) (fun M3 s3 hD3 => ?_)
      have hst3 : ∀ j, i ≤ j → j < e → (taF g (giF g stF rs.2.1 i (e - i) i (fun _ => 0)).2 (usN g stF (giF g stF rs.2.1 i (e - i) i (fun _ => 0)).2 i e) i e 8 0 (rsH ((stF, rs.2) : RS) (hBear rs.2.2.1 (nzA g i) (g 31 15)))).1 (plc g j) ≠ 1 := by
        intro j a b
        rcases taF_st (g := g) (gv := (giF g stF rs.2.1 i (e - i) i (fun _ => 0)).2) (u := usN g stF (giF g stF rs.2.1 i (e - i) i (fun _ => 0)).2 i e) (i := i) (e := e) 8 0 (rsH ((stF, rs.2) : RS) (hBear rs.2.2.1 (nzA g i) (g 31 15))) (plc g j) with q | q
        · rw [q]; exact hne1 j a b
        · rw [q]; omega
      refine c_T_lookAtParts hD3 hW hta.1 he (by omega) hst3 (fun M4 s4 hD4 => ?_)
      have hlp := lpF_b (g := g) (i := i) (e := e) hta.1
      refine c_T_setParts hD4 hW hp hlp.1 he (by omega) (by rw [lpF_st]; exact hst3) (fun M5 s5 hD5 => ⟨z01_1, ?_⟩)
      have s35 := (s3.tr s4).tr s5
      refine k1 M5 (((sF.ofD s1).tr (sF.ofP s2)).tr (sF.ofD s35)) (fun j hj => ?_) hD5 ?_
      · rw [s35.2 j (by omega), s2 26 (by omega) (by omega), s1.2 j (by omega)]
      · rw [s35.2 13 (by omega), s2 26 (by omega) (by omega), s1.2 13 (by omega)]
  · rw [b2_z] at c2
    have c2 : ¬ 0 < wnC g stF i e := of_decide_eq_false c2
    rw [if_neg c2] at eT
    rw [eT] at k1
    exact k1 rfl M1 (sF.ofD s1) (fun j hj => s1.2 j (by omega)) hD1 (s1.2 13 (by omega))
theorem c_T_goOn {i t : Nat} (hD : DT g rs M) (hX : DX g M) (hW : Wk g) (hp : Wp g) (hb : rsB rs) (h19 : g 31 19 ≤ 3) (hmis : ∀ n, g 43 n ≤ 1) (hi : i ≤ pln g) (hbi : i < pln g → bgn g i = true) (htk : rs.2.2.2.1 ≤ 320 * i) (h1 : ∀ j, i ≤ j → j < pln g → rs.1 (plc g j) ≠ 1) (h9 : M 26 9 = nI i) (h12 : M 26 12 = nI t)
    (k : ∀ M', sF M M' → (∀ j, j < 8 ∨ 15 < j → M' 26 j = M 26 j) → DT g (goR g 10 i t rs).2.2.2 M' → M' 26 13 = nI (goR g 10 i t rs).1 - 1 → M' 26 12 = nI (goR g 10 i t rs).2.2.1 → ((goR g 10 i t rs).2.1 < pln g → M' 26 9 = nI (goR g 10 i t rs).2.1 ∧ M' 26 8 = M 26 8) → (¬ (goR g 10 i t rs).2.1 < pln g → M' 26 8 = 1) → Q 0 M') : CE E (d + 5) n_T_goOn [.inr 26] M Q := by
  have hn := hW.2.1
  have hp10 := hW.1
  generalize hN : goR g 10 i t rs = r at k
  have L10 : ∀ (f i t : Nat) (rs : RS) (M1 : Mem), pln g - i ≤ f → i ≤ pln g → (i < pln g → bgn g i = true) → rs.2.2.2.1 ≤ 320 * i → rsB rs → (∀ j, i ≤ j → j < pln g → rs.1 (plc g j) ≠ 1) → goR g f i t rs = r → sF M M1 → (∀ j, j < 9 ∨ 15 < j → M1 26 j = M 26 j) → DT g rs M1 → M1 26 12 = nI t → M1 26 13 = -1 → JE E (d + 5) n_T_goOn 10 [some (.inr 26), some (.inl (nI i))] [] M1 Q := by
    intro f
    have over : ∀ (i t : Nat) (rs : RS) (M1 : Mem), i ≤ pln g → ¬ i < pln g → (0, i, t, rs) = r → sF M M1 → (∀ j, j < 9 ∨ 15 < j → M1 26 j = M 26 j) → DT g rs M1 → M1 26 12 = nI t → M1 26 13 = -1 → JE E (d + 5) n_T_goOn 10 [some (.inr 26), some (.inl (nI i))] [] M1 Q := by
      intro i t rs M1 hi hil hr s1 q1 hD1 e12 e13
      have h15 : M1 15 1 = nI (pln g) := hD1.1.2.2.2.2.1
      subst hr
      refine b_T_goOn_10 _ ⟨fun _ => ⟨z01_1, ?_⟩, fun c1 => absurd (by rw [h15]; exact nI_le (by omega) (by omega)) c1⟩
      have n26 : ∀ j, j ≠ 8 → mset M1 26 8 1 26 j = M1 26 j := fun j hj => by rw [mset_eq]; exact if_neg hj
      refine k _ (s1.tr (sF.set26 8 _)) (fun j hj => ?_) (hD1.set 26 8 _ (by omega)) ?_ ?_ (fun z => absurd z hil) (fun _ => ?_)
      · rw [n26 j (by omega)]
        exact q1 j (by omega)
      · rw [n26 13 (by omega), e13]
        rfl
      · rw [n26 12 (by omega), e12]
      · rw [mset_eq]
        exact if_pos rfl
    induction f with
    | zero =>
      intro i t rs M1 hf hi hbi htk hb1 h1 hr s1 q1 hD1 e12 e13
      exact over i t rs M1 hi (by omega) hr s1 q1 hD1 e12 e13
    | succ f ih =>
      intro i t rs M1 hf hi hbi htk hb1 h1 hr s1 q1 hD1 e12 e13
      rw [goR] at hr
      by_cases hil : i < pln g
      · rw [if_pos hil] at hr
        have h15 : M1 15 1 = nI (pln g) := hD1.1.2.2.2.2.1
        have hen := enT_le g hil
        have hbT := toR_b hW h19 (i := i) (e := enT g i) (by omega) (by omega) hb1 (by omega)
        have hX1 : DX g M1 := ⟨fun n hn => by rw [s1 28 (by omega) (by omega) (by omega) (by omega) (by omega)]; exact hX.1 n hn, by rw [q1 6 (by omega)]; exact hX.2⟩
        refine b_T_goOn_10 _ ⟨fun c1 => absurd c1 (by rw [h15]; exact nI_ge (by omega) (by omega)), fun _ => ?_⟩
        refine t_beginsAt hD1 hW hb1 hil ⟨fun _ => ?_, fun c2 => ?_⟩
        · refine t_endOfTour hD1 hW hb1 hil ?_
          refine c_T_finishTour hD1 hX1 hW hp hb1 h19 hmis (by omega) (by omega) (by omega) (fun j a b => h1 j a (by omega)) (fun hs M2 s2 q2 hD2 e2 => ⟨fun z => absurd rfl z, fun _ => ?_⟩) (fun hs M2 s2 q2 hD2 e2 => ⟨fun _ => ?_, fun z => absurd z (by decide)⟩)
          · rw [if_neg hs] at hr
            subst hr
            have est : nI ((toR g i (enT g i) rs).1 - 1) = nI (toR g i (enT g i) rs).1 - 1 := by
              have : nI (toR g i (enT g i) rs).1 = nI ((toR g i (enT g i) rs).1 - 1) + 1 := by
                rw [nI_1]
                congr 1
                omega
              rw [this, Int32.add_sub_cancel]
            have n26 : ∀ j, j ≠ 9 → mset M2 26 9 (nI i) 26 j = M2 26 j := fun j hj => by rw [mset_eq]; exact if_neg hj
            refine k _ ((s1.tr s2).tr (sF.set26 9 _)) (fun j hj => ?_) (hD2.set 26 9 _ (by omega)) ?_ ?_ (fun _ => ⟨?_, ?_⟩) (fun z => absurd hil z)
            · rw [n26 j (by omega), q2 j (by omega)]
              exact q1 j (by omega)
            · rw [n26 13 (by omega), e2]
              exact est
            · rw [n26 12 (by omega), q2 12 (by omega)]
              exact e12
            · rw [mset_eq]
              exact if_pos rfl
            · rw [n26 8 (by omega), q2 8 (by omega)]
              exact q1 8 (by omega)
          · rw [if_pos hs] at hr
            have n26 : ∀ j, j ≠ 12 → mset M2 26 12 (M2 26 12 + 1) 26 j = M2 26 j := fun j hj => by rw [mset_eq]; exact if_neg hj
            have hD3 := hD2.set 26 12 (M2 26 12 + 1) (by omega)
            have hend : JE E (d + 5) n_T_goOn 10 [some (.inr 26), some (.inl (nI (enT g i)))] [] (mset M2 26 12 (M2 26 12 + 1)) Q := by
              refine ih (enT g i) (t + 1) _ _ (by omega) (by omega) (fun hl => ?_) (by have := hbT.2; omega) hbT.1 (fun j a b => ?_) hr ((s1.tr s2).tr (sF.set26 12 _)) (fun j hj => ?_) hD3 ?_ ?_
              · have : fst (fun j => bgn g j) (pln g - (i + 1)) (i + 1) < (i + 1) + (pln g - (i + 1)) := by
                  show enT g i < _
                  omega
                exact fst_yes _ _ _ this
              · exact toR_ne1 hp (by omega) b (fun _ => a) (h1 j (by omega) b)
              · rw [n26 j (by omega), q2 j (by omega)]
                exact q1 j hj
              · rw [mset_eq]
                show upd _ 12 _ 12 = _
                rw [q2 12 (by omega), e12, nI_1]
                exact if_pos rfl
              · rw [n26 13 (by omega), e2]
                exact e13
            have skip : ∀ (n x : Nat), x + n = enT g i → i < x → JE E (d + 5) n_T_goOn 10 [some (.inr 26), some (.inl (nI x))] [] (mset M2 26 12 (M2 26 12 + 1)) Q := by
              intro n
              induction n with
              | zero =>
                intro x hx _
                rw [show x = enT g i by omega]
                exact hend
              | succ n ihn =>
                intro x hx hix
                have h15 : mset M2 26 12 (M2 26 12 + 1) 15 1 = nI (pln g) := hD3.1.2.2.2.2.1
                have hno : bgn g x = false := fst_no (fun j => bgn g j) (pln g - (i + 1)) (i + 1) x (by omega) (by show x < enT g i; omega)
                refine b_T_goOn_10 _ ⟨fun c1 => absurd c1 (by rw [h15]; exact nI_ge (by omega) (by omega)), fun _ => ?_⟩
                refine t_beginsAt hD3 hW hbT.1 (by omega) ⟨fun c3 => ?_, fun _ => ?_⟩
                · rw [hno] at c3
                  exact absurd rfl c3
                · rw [nI_1]
                  exact ihn (x + 1) (by omega) (by omega)
            rw [nI_1]
            exact skip (enT g i - (i + 1)) (i + 1) (by omega) (by omega)
        · rw [hbi hil] at c2
          exact absurd c2 (by decide)
      · rw [if_neg hil] at hr
        exact over i t rs M1 hi hil hr s1 q1 hD1 e12 e13
  refine CE_of rfl (b_T_goOn_0 ?_)
  rw [h9]
  have n26 : ∀ j, j ≠ 13 → mset M 26 13 (-1) 26 j = M 26 j := fun j hj => by rw [mset_eq]; exact if_neg hj
  refine L10 10 i t rs _ (by omega) hi hbi htk hb h1 hN (sF.set26 13 _) (fun j hj => n26 j (by omega)) (hD.set 26 13 _ (by omega)) (by rw [n26 12 (by omega)]; exact h12) ?_
  rw [mset_eq]
  exact if_pos rfl
end DY
