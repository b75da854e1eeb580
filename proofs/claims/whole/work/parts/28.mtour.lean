/-! The reference: a tour of a run. -/
theorem loF_keep {g : GS} (hp : Wp g) : ∀ (n j : Nat) (st : Nat → Nat) (j' : Nat), j' < j → j + n ≤ pln g → loF g n j st (plc g j') = st (plc g j')
  | 0, j, st, j', _, _ => rfl
  | n + 1, j, st, j', h1, h2 => by
    rw [loF, loF_keep hp n (j + 1) _ j' (by omega) (by omega)]
    split
    · exact fs_ne _ _ (hp.1 j' j h1 (by omega))
    · rfl
theorem loF_mono {g : GS} : ∀ (n j : Nat) (st : Nat → Nat) (p : Nat), loF g n j st p = 0 → st p = 0
  | 0, j, st, p, h => h
  | n + 1, j, st, p, h => by
    rw [loF] at h
    have := loF_mono n (j + 1) _ p h
    split at this
    · unfold fs at this
      split at this
      · omega
      · exact this
    · exact this
theorem loF_ne1 {g : GS} : ∀ (n j : Nat) (st : Nat → Nat) (p : Nat), st p ≠ 1 → loF g n j st p ≠ 1
  | 0, j, st, p, h => h
  | n + 1, j, st, p, h => by
    rw [loF]
    refine loF_ne1 n (j + 1) _ p ?_
    split
    · unfold fs
      split
      · omega
      · exact h
    · exact h
theorem usN_cong {g : GS} {st st' gv gv' : Nat → Nat} {i j s : Nat} (h : ∀ j', i ≤ j' → j' < j → (st (plc g j') == 0 && gv (plc g j') == s) = (st' (plc g j') == 0 && gv' (plc g j') == s)) : usN g st gv i j s = usN g st' gv' i j s := by
  unfold usN
  apply cnt_cong
  intro j' h1 h2
  exact h j' h1 (by omega)
section RU
variable {E : Env0} {d : Nat} {M : Mem} {Q : Int32 → Mem → Prop} {g : GS} {rs : RS}
/-- the last two steps of a tour -/
theorem m_tour_end {i e : Nat} (hW : Wk g) (hp : Wp g) (hie : i < e) (he : e ≤ pln g) {rs : RS} {M : Mem} (hM : MR g rs M) (hb : rsB rs) (h50 : ∀ j, i ≤ j → j < e → M 50 (plc g j) = b2 (rs.1 (plc g j) == 0)) (o2 o4 o7 : Option V) (k : ∀ M', sR M M' → MR g (seF g (e - i) i (lpF g i e rs)) M' → Q 1 M') : JE E (d + 3) n_M_tour 430 [some (.inr 31), some (.inl (nI e)), o2, some (.inl (nI i)), o4, some (.inl 0), some (.inl (nI i)), o7] [] M Q := by
  have hn := hW.2.1
  have hp10 := hW.1
  have L516 : ∀ (n j : Nat) (rs : RS) (M : Mem) (o2 o3 o4 o5 o7 : Option V), j + n = e → i ≤ j → MR g rs M → rsB rs → (∀ j', j ≤ j' → j' < e → M 50 (plc g j') = b2 (rs.1 (plc g j') == 0)) → (∀ M', sR M M' → MR g (seF g n j rs) M' → Q 1 M') → JE E (d + 3) n_M_tour 516 [some (.inr 31), some (.inl (nI e)), o2, o3, o4, o5, some (.inl (nI j)), o7] [] M Q := by
    intro n
    induction n with
    | zero =>
      intro j rs M o2 o3 o4 o5 o7 hj hij hM hb h50 k
      exact b_M_tour_516 _ _ _ _ _ _ _ ⟨fun _ => ⟨z01_1, k M sR.rf hM⟩, fun c1 => absurd (nI_le (by omega) (by omega)) c1⟩
    | succ n ih =>
      intro j rs M o2 o3 o4 o5 o7 hj hij hM hb h50 k
      have hpj := hW.2.2.2.2.2.2.2.2 j (by omega)
      obtain ⟨a1, a2, a3⟩ := hW.2.2.1 (plc g j) (by omega)
      have m42 : ∀ j, M 42 j = nI (g 42 j) := fun j => hM.1.at 42 (by omega) (by omega) (by omega) j
      have hsb := seS_b (g := g) (p := plc g j) ⟨a1, a2⟩ hb
      have v1 : vp_in (nI j) 10 := vp_in_nI (by omega) (by omega)
      have v2 : vp_in (nI (plc g j)) 10 := vp_in_nI (by omega) (by omega)
      have hne : ∀ j', j + 1 ≤ j' → j' < e → plc g j' ≠ plc g j := fun j' h1 h2 z => hp.1 j j' (by omega) (by omega) z.symm
      rw [seF] at k
      refine b_M_tour_516 _ _ _ _ _ _ _ ⟨fun c1 => absurd c1 (nI_ge (by omega) (by omega)), fun _ => ?_⟩
      simp (disch := omega) only [nI_clamp, m42, rem16]
      rw [show g 42 j % 16 = plc g j from rfl]
      rw [h50 j (by omega) (by omega)]
      refine ⟨v1, nz16, v2, fun c2 => ?_, fun c2 => ?_⟩
      · rw [b2_nz] at c2
        have hz : rs.1 (plc g j) = 0 := by simpa using c2
        refine c_M_isBehindMissing hM hW hb (by omega) ⟨fun c3 => ⟨v2, v2, ?_⟩, fun c3 => ⟨v2, ?_⟩⟩
        · rw [b2_z] at c3
          rw [hM.1.at 36 (by omega) (by omega) (by omega), hM.1.at 37 (by omega) (by omega) (by omega)]
          have hsg : sG g 41 rs.2.1 36 (plc g j) = g 36 (plc g j) ∧ sG g 41 rs.2.1 37 (plc g j) = g 37 (plc g j) := ⟨rfl, rfl⟩
          rw [hsg.1, hsg.2]
          refine c_M_goes hM.2.2.1 hb.2.2.1 a1 a2 (fun M1 s1 H1 => ⟨v2, ?_⟩)
          have hM1 := hM.hd s1 H1
          have h13 : M1 31 13 = nI (g 31 13) := hM1.1.2.2.2 13 (by omega) (by omega)
          have hM2 := hM1.hd (sT.set 24 (M1 31 24 + nI (g 31 13)) (by omega) (by omega)) (H1.add (g 31 13))
          have hM3 := hM2.st (plc g j) 1
          have e1 : seS g (plc g j) rs = (fs rs.1 (plc g j) 1, (rsH rs (hAdd (hGo rs.2.2.1 (g 36 (plc g j)) (g 37 (plc g j))) (g 31 13))).2) := by
            unfold seS
            rw [if_pos hz, if_neg (by rw [c3]; decide)]
          rw [e1] at k hsb
          rw [h13, nI_1]
          refine ih (j + 1) _ _ _ _ _ _ _ (by omega) (by omega) hM3 hsb.1 (fun j' h1 h2 => ?_) (fun M' s2 => k M' (((sR.ofT (s1.tr (sT.set 24 _ (by omega) (by omega)))).tr (sR.set 48 _ _ (by omega))).tr s2))
          rw [mset_ne _ _ _ (by omega), mset_ne _ _ _ (by omega), s1.1 50 (by omega), h50 j' (by omega) h2]
          show b2 (rs.1 (plc g j') == 0) = b2 (fs rs.1 (plc g j) 1 (plc g j') == 0)
          rw [fs_ne _ _ (hne j' h1 h2)]
        · rw [b2_nz] at c3
          have e1 : seS g (plc g j) rs = (fs rs.1 (plc g j) 2, rs.2) := by
            unfold seS
            rw [if_pos hz, if_pos c3]
          rw [e1] at k hsb
          rw [nI_1]
          refine ih (j + 1) _ _ _ _ _ _ _ (by omega) (by omega) (hM.st (plc g j) 2) hsb.1 (fun j' h1 h2 => ?_) (fun M' s2 => k M' ((sR.set 48 _ _ (by omega)).tr s2))
          rw [mset_ne _ _ _ (by omega), h50 j' (by omega) h2]
          show b2 (rs.1 (plc g j') == 0) = b2 (fs rs.1 (plc g j) 2 (plc g j') == 0)
          rw [fs_ne _ _ (hne j' h1 h2)]
      · rw [b2_z] at c2
        have e1 : seS g (plc g j) rs = rs := by
          unfold seS
          rw [if_neg (by simpa using c2)]
        rw [e1] at k
        rw [nI_1]
        exact ih (j + 1) rs M _ _ _ _ _ (by omega) (by omega) hM hb (fun j' h1 h2 => h50 j' (by omega) h2) k
  have L430 : ∀ (n j c : Nat), j + n = e → i ≤ j → c ≤ 10 + j → c + cnt (fun j => rs.1 (plc g j) == 0 && g 35 (kdA g j) == 1) n j = lpC g rs.1 i e → JE E (d + 3) n_M_tour 430 [some (.inr 31), some (.inl (nI e)), o2, some (.inl (nI i)), o4, some (.inl (nI c)), some (.inl (nI j)), o7] [] M Q := by
    intro n
    induction n with
    | zero =>
      intro j c hj hij hc hcc
      rw [cnt, Nat.add_zero] at hcc
      have hlb := lpF_b (g := g) (i := i) (e := e) hb
      have h14 : ∀ M1, MR g rs M1 → M1 31 14 = nI (g 31 14) := fun M1 h => h.1.2.2.2 14 (by omega) (by omega)
      refine b_M_tour_430 _ _ _ _ _ _ _ ⟨fun _ => ⟨fun c2 => ?_, fun c2 => ?_⟩, fun c1 => absurd (nI_le (by omega) (by omega)) c1⟩
      · rw [zero_nI, nI_leI (by omega) (by omega)] at c2
        have e0 : c = 0 := by omega
        have e1 : lpF g i e rs = rs := by unfold lpF; rw [if_neg (by omega)]
        rw [e1] at k
        have e2 : mset M 31 24 (M 31 24 + nI c * M 31 14) = mset M 31 24 (M 31 24 + nI 0) := by rw [e0, h14 M hM, pk_mul, Nat.zero_mul]
        rw [e2]
        have hM2 := hM.hd (sT.set 24 (M 31 24 + nI 0) (by omega) (by omega)) (hM.2.2.1.add 0)
        have e3 : rsH rs (hAdd rs.2.2.1 0) = rs := rfl
        rw [e3] at hM2
        refine L516 (e - i) i rs _ _ _ _ _ _ (by omega) (by omega) hM2 hb (fun j' h1 h2 => ?_) (fun M' s2 => k M' ((sR.set31 24 _ (by omega)).tr s2))
        rw [mset_ne _ _ _ (by omega)]
        exact h50 j' h1 h2
      · rw [zero_nI, nI_leI (by omega) (by omega)] at c2
        have e1 : lpF g i e rs = rsH rs (hAdd (hGo rs.2.2.1 199 0) (c * g 31 14)) := by unfold lpF; rw [if_pos (by omega), hcc]
        rw [e1] at k hlb
        refine c_M_goes (x := 199) (y := 0) hM.2.2.1 hb.2.2.1 (by omega) (by omega) (fun M1 s1 H1 => ?_)
        have hM1 := hM.hd s1 H1
        have h14' : M1 31 14 = nI (g 31 14) := hM1.1.2.2.2 14 (by omega) (by omega)
        rw [h14', pk_mul]
        have hM2 := hM1.hd (sT.set 24 (M1 31 24 + nI (c * g 31 14)) (by omega) (by omega)) (H1.add (c * g 31 14))
        refine L516 (e - i) i _ _ _ _ _ _ _ (by omega) (by omega) hM2 hlb.1 (fun j' h1 h2 => ?_) (fun M' s2 => k M' ((sR.ofT (s1.tr (sT.set 24 _ (by omega) (by omega)))).tr s2))
        rw [mset_ne _ _ _ (by omega), s1.1 50 (by omega)]
        exact h50 j' h1 h2
    | succ n ih =>
      intro j c hj hij hc hcc
      have hpj := hW.2.2.2.2.2.2.2.2 j (by omega)
      have hk := hW.kd (i := j) (by omega)
      have hfn := (hW.2.2.2.1 _ hk).2.2.2
      have m42 : ∀ j, M 42 j = nI (g 42 j) := fun j => hM.1.at 42 (by omega) (by omega) (by omega) j
      have m35 : ∀ j, M 35 j = nI (g 35 j) := fun j => hM.1.at 35 (by omega) (by omega) (by omega) j
      have hW2 : Wk (sG g 41 rs.2.1) := hW.sG41 hb.2.1
      rw [cnt_succ_if] at hcc
      have no : (rs.1 (plc g j) == 0 && g 35 (kdA g j) == 1) = false → JE E (d + 3) n_M_tour 430 [some (.inr 31), some (.inl (nI e)), o2, some (.inl (nI i)), o4, some (.inl (nI c + 0)), some (.inl (nI j + 1)), o7] [] M Q := by
        intro e0
        rw [e0] at hcc
        have := ih (j + 1) (c + 0) (by omega) (by omega) (by omega) hcc
        rw [← nI_1, ← nI_add] at this
        exact this
      refine b_M_tour_430 _ _ _ _ _ _ _ ⟨fun c1 => absurd c1 (nI_ge (by omega) (by omega)), fun _ => ?_⟩
      simp (disch := omega) only [nI_clamp, m42, rem16]
      rw [show g 42 j % 16 = plc g j from rfl]
      rw [h50 j (by omega) (by omega)]
      refine ⟨vp_in_nI (by omega) (by omega), nz16, vp_in_nI (by omega) (by omega), fun c2 => no ?_, fun c2 => ?_⟩
      · rw [b2_z] at c2
        rw [c2]
        rfl
      · rw [b2_nz] at c2
        refine c_M_kindAt hM.1 hW2 (show j < pln g by omega) ?_
        rw [show kdA (sG g 41 rs.2.1) j = kdA g j from rfl, nI_clamp (by omega), m35]
        refine ⟨vp_in_nI hk (by omega), fun c3 => no ?_, fun c3 => ?_⟩
        · rw [zero_nI, nI_eq (by omega) (by omega)] at c3
          rw [c3, Bool.and_eq_false_iff]
          exact Or.inr rfl
        · rw [zero_nI, nI_eq (by omega) (by omega)] at c3
          have e0 : (rs.1 (plc g j) == 0 && g 35 (kdA g j) == 1) = true := by
            rw [c2]
            have : g 35 (kdA g j) = 1 := by omega
            simp [this]
          rw [e0] at hcc
          have := ih (j + 1) (c + 1) (by omega) (by omega) (by omega) hcc
          rw [← nI_1, ← nI_1] at this
          exact this
  exact L430 (e - i) i 0 (by omega) (by omega) (by omega) (by rw [Nat.zero_add]; rfl)
end RU
