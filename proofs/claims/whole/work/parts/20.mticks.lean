/-! The reference: isGood, planTicks. -/
theorem one_nI : (1 : Int32) = nI 1 := rfl
theorem zero_nI : (0 : Int32) = nI 0 := rfl
section MT
variable {E : Env0} {d : Nat} {M : Mem} {Q : Int32 → Mem → Prop} {g : GS}
theorem c_M_isGood (hR : RC g M) (hW : Wk g) (h : Q (b2 (gdB g)) M) : CE E (d + 3) n_M_isGood [.inr 31] M Q := by
  have hn := hW.2.1
  have hp10 := hW.1
  have h16 : M 31 16 = nI (pln g) := hR.2.2.2 16 (by omega) (by omega)
  have h11 : M 31 11 = nI (nzs g) := hR.2.2.2 11 (by omega) (by omega)
  have m42 := hR.at 42 (by omega) (by omega) (by omega)
  have m34 := hR.at 34 (by omega) (by omega) (by omega)
  have hnz : 1 ≤ nzs g ∧ nzs g ≤ 4 := hW.2.2.2.2.2.2.1
  have inner : ∀ (c i n j : Nat), i < pln g → i < j → j + n = pln g → (alB (fun j => !ahB g (plc g j) (plc g i)) n j = true → ∀ o, JE E (d + 3) n_M_isGood 17 [some (.inr 31), some (.inl (nI c)), some (.inl (nI (i + 1))), o] [] M Q) → (alB (fun j => !ahB g (plc g j) (plc g i)) n j = false → Q 0 M) → JE E (d + 3) n_M_isGood 98 [some (.inr 31), some (.inl (nI c)), some (.inl (nI i)), some (.inl (nI j))] [] M Q := by
    intro c i n
    induction n with
    | zero =>
      intro j hi hij hj k1 _
      refine b_M_isGood_98 _ _ _ ⟨fun _ => ?_, fun c1 => absurd (by rw [h16]; exact nI_le (by omega) (by omega)) c1⟩
      rw [nI_1]
      exact k1 rfl _
    | succ n ih =>
      intro j hi hij hj k1 k2
      have hpi := hW.2.2.2.2.2.2.2.2 i hi
      have hpj := hW.2.2.2.2.2.2.2.2 j (by omega)
      refine b_M_isGood_98 _ _ _ ⟨fun c1 => absurd c1 (by rw [h16]; exact nI_ge (by omega) (by omega)), fun _ => ?_⟩
      simp (disch := omega) only [nI_clamp, m42, rem16]
      refine ⟨vp_in_nI (by omega) (by omega), nz16, vp_in_nI (by omega) (by omega), nz16, c_M_isAhead (p := plc g j) (q := plc g i) hR hW (by omega) (by omega) ⟨fun c2 => ?_, fun c2 => ⟨z01_0, ?_⟩⟩⟩
      · rw [b2_z] at c2
        rw [nI_1]
        refine ih (j + 1) hi (by omega) (by omega) (fun q => k1 ?_) (fun q => k2 ?_)
        · rw [alB, q, c2]; rfl
        · rw [alB, q, Bool.and_false]
      · rw [b2_nz] at c2
        exact k2 (by rw [alB, c2]; rfl)
  have main : ∀ (n i c : Nat) (o : Option V), i + n = pln g → (i = 0 → bgn g i = true ∨ c = 0) → c ≤ 10 + i → Q (b2 (gdF g n i c)) M → JE E (d + 3) n_M_isGood 17 [some (.inr 31), some (.inl (nI c)), some (.inl (nI i)), o] [] M Q := by
    intro n
    induction n with
    | zero =>
      intro i c o hi h0 hc hq
      exact b_M_isGood_17 _ _ _ ⟨fun _ => ⟨z01_1, hq⟩, fun c1 => absurd (by rw [h16]; exact nI_le (by omega) (by omega)) c1⟩
    | succ n ih =>
      intro i c o hi h0 hc hq
      have hil : i < pln g := by omega
      have after : ∀ c' : Nat, c' ≤ 10 + i + 1 → (i = 0 → c' ≤ 1) → Q (b2 (gdS g i c' && gdF g n (i + 1) c')) M → JE E (d + 3) n_M_isGood 41 [some (.inr 31), some (.inl (nI c')), some (.inl (nI i)), o] [] M Q := by
        intro c' hc' h0' hq'
        have k79 : decide (c' ≤ nzs g) = true → (decide (c' ≤ 1) || nzA g i == nzA g (i - 1)) = true → JE E (d + 3) n_M_isGood 79 [some (.inr 31), some (.inl (nI c')), some (.inl (nI i)), o] [] M Q := by
          intro e1 e2
          refine b_M_isGood_79 _ _ _ (c_M_kindAt hR hW hil (c_M_slotOf hR hW (hW.kd hil) ⟨fun c3 => ?_, fun c3 => ⟨z01_0, ?_⟩⟩))
          · rw [e8_none (slO_le _ _)] at c3
            have e3 : slO g (kdA g i) < 8 := by have := slO_le g (kdA g i); omega
            rw [nI_1]
            refine inner c' i (pln g - (i + 1)) (i + 1) hil (by omega) (by omega) (fun q o' => ih (i + 1) c' o' (by omega) (by omega) (by omega) ?_) (fun q => ?_)
            · have : gdS g i c' = true := by unfold gdS; rw [e1, e2, q]; simp [e3]
              rw [this, Bool.true_and] at hq'
              exact hq'
            · have : gdS g i c' = false := by unfold gdS; rw [q]; simp
              rw [this] at hq'
              exact hq'
          · rw [e8_none (slO_le _ _)] at c3
            have : gdS g i c' = false := by unfold gdS; rw [c3]; simp
            rw [this] at hq'
            exact hq'
        refine b_M_isGood_41 _ _ _ ⟨fun c1 => ⟨z01_0, ?_⟩, fun c1 => ⟨fun c2 => ?_, fun c2 => ?_⟩⟩
        · rw [h11, nI_ltI (by omega) (by omega)] at c1
          have : gdS g i c' = false := by unfold gdS; simp; omega
          rw [this] at hq'
          exact hq'
        · rw [h11, nI_ltI (by omega) (by omega)] at c1
          rw [one_nI, nI_leI (by omega) (by omega)] at c2
          exact k79 (by simp; omega) (by simp [c2])
        · rw [h11, nI_ltI (by omega) (by omega)] at c1
          rw [one_nI, nI_leI (by omega) (by omega)] at c2
          have hi0 : 0 < i := by omega
          have e1 : nI i - 1 = nI (i - 1) := by
            rw [one_nI, pk_sub (by omega)]
          rw [e1]
          have hk := hW.kd hil
          have hk2 := hW.kd (i := i - 1) (by omega)
          refine c_M_kindAt hR hW hil ⟨vp_in_nI hk (by omega), c_M_kindAt hR hW (by omega) ⟨vp_in_nI hk2 (by omega), fun c3 => ⟨z01_0, ?_⟩, fun c3 => ?_⟩⟩
          · rw [nI_clamp (by omega), nI_clamp (by omega), m34, m34, nI_eq (by have := (hW.2.2.2.1 _ hk).2.2.1; omega) (by have := (hW.2.2.2.1 _ hk2).2.2.1; omega)] at c3
            have : gdS g i c' = false := by
              unfold gdS nzA
              simp only [Bool.and_eq_false_iff]
              refine Or.inr (Or.inl ?_)
              simp
              exact ⟨by omega, c3⟩
            rw [this] at hq'
            exact hq'
          · rw [nI_clamp (by omega), nI_clamp (by omega), m34, m34, nI_eq (by have := (hW.2.2.2.1 _ hk).2.2.1; omega) (by have := (hW.2.2.2.1 _ hk2).2.2.1; omega)] at c3
            refine k79 (by simp; omega) ?_
            unfold nzA
            rw [c3]
            simp
      rw [gdF] at hq
      refine b_M_isGood_17 _ _ _ ⟨fun c1 => absurd c1 (by rw [h16]; exact nI_ge (by omega) (by omega)), fun _ => c_M_begins1 hR hW (by omega) ⟨fun c2 => ?_, fun c2 => ?_⟩⟩
      · rw [b2_z] at c2
        simp only [Bool.or_eq_false_iff] at c2
        rw [nI_1]
        refine after (c + 1) (by omega) ?_ ?_
        · intro i0
          rcases h0 i0 with q | q
          · rw [q] at c2; exact absurd c2.2 (by decide)
          · omega
        · rw [c2.2] at hq
          exact hq
      · rw [b2_nz] at c2
        have c3 : bgn g i = true := by
          simp only [Bool.or_eq_true, decide_eq_true_eq] at c2
          rcases c2 with q | q
          · omega
          · exact q
        rw [c3] at hq
        exact after 1 (by omega) (by omega) hq
  have h4 : M 31 4 = nI (pls g) := hR.2.2.1
  refine CE_of rfl (b_M_isGood_0 ⟨fun c1 => ?_, fun c1 => ⟨z01_0, ?_⟩⟩)
  · rw [h16, h4, nI_eq (by omega) (by omega)] at c1
    refine main (pln g) 0 0 _ (by omega) (fun _ => Or.inr rfl) (by omega) ?_
    unfold gdB at h
    simpa [c1] using h
  · rw [h16, h4, nI_eq (by omega) (by omega)] at c1
    unfold gdB at h
    simpa [c1, b2] using h
/-- since then only the reference's head has moved -/
def sT (M M' : Mem) : Prop := (∀ k, k ≠ 31 → M' k = M k) ∧ ∀ j, j < 21 ∨ 24 < j → M' 31 j = M 31 j
theorem sT.rf : sT M M := ⟨fun _ _ => rfl, fun _ _ => rfl⟩
theorem sT.tr {M1 M2 : Mem} (h1 : sT M M1) (h2 : sT M1 M2) : sT M M2 := ⟨fun k hk => (h2.1 k hk).trans (h1.1 k hk), fun j hj => (h2.2 j hj).trans (h1.2 j hj)⟩
theorem sT.set (j : Nat) (x : Int32) (h1 : 21 ≤ j) (h2 : j ≤ 24) : sT M (mset M 31 j x) := by
  refine ⟨fun k hk => mset_ne M j x hk, fun i hi => ?_⟩
  rw [mset_eq]
  unfold upd
  rw [if_neg (by omega)]
theorem RC.sT (hR : RC g M) {M' : Mem} (h : sT M M') : RC g M' := by
  refine ⟨fun k h1 h2 h3 j => ?_, fun j => ?_, ?_, fun j h1 h2 => ?_⟩
  · rw [h.1 k (by omega)]; exact hR.1 k h1 h2 h3 j
  · rw [h.1 40 (by omega)]; exact hR.2.1 j
  · rw [h.2 4 (by omega)]; exact hR.2.2.1
  · rw [h.2 j (by omega)]; exact hR.2.2.2 j h1 h2
def HM (h : Hd) (M : Mem) : Prop := M 31 21 = nI h.1 ∧ M 31 22 = nI h.2.1 ∧ M 31 23 = nI h.2.2.1 ∧ M 31 24 = nI h.2.2.2
theorem HM.add {h : Hd} (hH : HM h M) (n : Nat) : HM (hAdd h n) (mset M 31 24 (M 31 24 + nI n)) := by
  obtain ⟨h1, h2, h3, h4⟩ := hH
  unfold HM hAdd
  rw [mset_eq]
  refine ⟨h1, h2, h3, ?_⟩
  rw [h4, nI_add]
  rfl
theorem c_M_goes {x y : Nat} {h : Hd} (hH : HM h M) (hb : hB h) (hx : x ≤ 199) (hy : y ≤ 199) (k : ∀ M', sT M M' → HM (hGo h x y) M' → Q 0 M') : CE E (d + 2) n_M_goes [.inr 31, .inl (nI x), .inl (nI y)] M Q := by
  obtain ⟨h1, h2, h3, h4⟩ := hH
  obtain ⟨b1, b2', -⟩ := hb
  refine CE_of rfl (b_M_goes_0 _ _ ?_)
  rw [h1, h2, h4]
  refine c_M_move (by omega) (by omega) (by omega) (by omega) (k _ ?_ ?_)
  · exact ((sT.set 24 _ (by omega) (by omega)).tr (sT.set 21 _ (by omega) (by omega))).tr (sT.set 22 _ (by omega) (by omega))
  · unfold HM hGo
    simp only [mset_eq, upd]
    exact ⟨rfl, rfl, h3, by simp [nI_add]⟩
theorem cnt_succ_if (P : Nat → Bool) (n i c : Nat) : c + cnt P (n + 1) i = (c + if P i then 1 else 0) + cnt P n (i + 1) := by
  rw [cnt]; omega
theorem c_M_planTicks (hR : RC g M) (hW : Wk g) (h : ∀ M', sT M M' → Q (nI (tkN g)) M') : CE E (d + 3) n_M_planTicks [.inr 31] M Q := by
  have hn := hW.2.1
  have hp10 := hW.1
  have hgear := hW.2.2.2.2.2.2.2.1
  -- the places
  have L235 : ∀ (n j e : Nat) (hd : Hd) (M : Mem) (o1 o3 o5 o6 : Option V), j + n = e → e ≤ pln g → RC g M → HM hd M → hB hd → (∀ M' o2 o3 o4 o5 o6, sT M M' → HM (plF g n j hd) M' → hB (plF g n j hd) → JE E (d + 3) n_M_planTicks 6 [some (.inr 31), some (.inl (nI e)), o2, o3, o4, o5, o6] [] M' Q) → JE E (d + 3) n_M_planTicks 235 [some (.inr 31), o1, some (.inl (nI e)), o3, some (.inl (nI j)), o5, o6] [] M Q := by
    intro n
    induction n with
    | zero =>
      intro j e hd M o1 o3 o5 o6 hj he hR hH hb k
      exact b_M_planTicks_235 _ _ _ _ _ _ ⟨fun _ => k M _ _ _ _ _ sT.rf hH hb, fun c1 => absurd (nI_le (by omega) (by omega)) c1⟩
    | succ n ih =>
      intro j e hd M o1 o3 o5 o6 hj he hR hH hb k
      have hpj := hW.2.2.2.2.2.2.2.2 j (by omega)
      obtain ⟨a1, a2, a3⟩ := hW.2.2.1 (plc g j) (by omega)
      have m42 := hR.at 42 (by omega) (by omega) (by omega)
      have m36 := hR.at 36 (by omega) (by omega) (by omega)
      have m37 := hR.at 37 (by omega) (by omega) (by omega)
      refine b_M_planTicks_235 _ _ _ _ _ _ ⟨fun c1 => absurd c1 (nI_ge (by omega) (by omega)), fun _ => ?_⟩
      simp (disch := omega) only [nI_clamp, m42, rem16]
      rw [show g 42 j % 16 = plc g j from rfl]
      simp (disch := omega) only [nI_clamp, m36, m37]
      refine ⟨vp_in_nI (by omega) (by omega), nz16, vp_in_nI (by omega) (by omega), vp_in_nI (by omega) (by omega), nz16, vp_in_nI (by omega) (by omega), c_M_goes hH hb a1 a2 (fun M1 s1 H1 => ?_)⟩
      have hR1 := hR.sT s1
      rw [hR1.2.2.2 13 (by omega) (by omega), nI_1]
      refine ih (j + 1) e (plS g j hd) _ _ _ _ _ (by omega) he (hR1.sT (sT.set 24 _ (by omega) (by omega))) (H1.add _) (hB_add (hB_go hb a1 a2)) (fun M' o2 o3 o4 o5 o6 s2 => k M' o2 o3 o4 o5 o6 ((s1.tr (sT.set 24 _ (by omega) (by omega))).tr s2))
  -- how many are fine
  have L171 : ∀ (n j i e c : Nat) (hd : Hd) (M : Mem) (o5 o6 : Option V), j + n = e → i ≤ j → e ≤ pln g → c ≤ 10 + j → RC g M → HM hd M → hB hd → c + cnt (fun j => g 35 (kdA g j) == 1) n j = fnC g i e → (∀ M' o1 o3 o5 o6, sT M M' → HM (lkF g i e hd) M' → hB (lkF g i e hd) → JE E (d + 3) n_M_planTicks 235 [some (.inr 31), o1, some (.inl (nI e)), o3, some (.inl (nI i)), o5, o6] [] M' Q) → JE E (d + 3) n_M_planTicks 171 [some (.inr 31), some (.inl (nI i)), some (.inl (nI e)), some (.inl (nI c)), some (.inl (nI j)), o5, o6] [] M Q := by
    intro n
    induction n with
    | zero =>
      intro j i e c hd M o5 o6 hj hij he hcb hR hH hb hc k
      rw [cnt, Nat.add_zero] at hc
      refine b_M_planTicks_171 _ _ _ _ _ _ ⟨fun _ => ⟨fun c2 => ?_, fun c2 => ?_⟩, fun c1 => absurd (nI_le (by omega) (by omega)) c1⟩
      · rw [zero_nI, nI_leI (by omega) (by omega)] at c2
        have e0 : c = 0 := by omega
        have e1 : lkF g i e hd = hd := by unfold lkF; rw [if_neg (by omega)]
        have e2 : mset M 31 24 (M 31 24 + nI c * M 31 14) = mset M 31 24 (M 31 24 + nI 0) := by rw [e0, hR.2.2.2 14 (by omega) (by omega), pk_mul, Nat.zero_mul]
        rw [e2]
        refine k _ _ _ _ _ (sT.set 24 _ (by omega) (by omega)) ?_ ?_
        · rw [e1]; exact hH.add 0
        · rw [e1]; exact hb
      · rw [zero_nI, nI_leI (by omega) (by omega)] at c2
        refine c_M_goes (x := 199) (y := 0) hH hb (by omega) (by omega) (fun M1 s1 H1 => ?_)
        rw [(hR.sT s1).2.2.2 14 (by omega) (by omega), pk_mul]
        have e1 : lkF g i e hd = hAdd (hGo hd 199 0) (c * g 31 14) := by unfold lkF; rw [if_pos (by omega), hc]
        refine k _ _ _ _ _ (s1.tr (sT.set 24 _ (by omega) (by omega))) ?_ ?_
        · rw [e1]; exact H1.add _
        · rw [e1]; exact hB_add (hB_go hb (by omega) (by omega))
    | succ n ih =>
      intro j i e c hd M o5 o6 hj hij he hcb hR hH hb hc k
      have hk := hW.kd (i := j) (by omega)
      have m35 := hR.at 35 (by omega) (by omega) (by omega)
      have hf := (hW.2.2.2.1 _ hk).2.2.2
      rw [cnt_succ_if] at hc
      refine b_M_planTicks_171 _ _ _ _ _ _ ⟨fun c1 => absurd c1 (nI_ge (by omega) (by omega)), fun _ => c_M_kindAt hR hW (by omega) ⟨vp_in_nI hk (by omega), fun c2 => ?_, fun c2 => ?_⟩⟩
      · rw [nI_clamp (by omega), m35, zero_nI, nI_eq (by omega) (by omega)] at c2
        rw [zero_nI, nI_add, nI_1]
        have e0 : (g 35 (kdA g j) == 1) = false := by rw [c2]; rfl
        rw [e0] at hc
        exact ih (j + 1) i e (c + 0) hd M _ _ (by omega) (by omega) he (by omega) hR hH hb hc k
      · rw [nI_clamp (by omega), m35, zero_nI, nI_eq (by omega) (by omega)] at c2
        rw [nI_1, nI_1]
        have e0 : (g 35 (kdA g j) == 1) = true := by simp; omega
        rw [e0] at hc
        exact ih (j + 1) i e (c + 1) hd M _ _ (by omega) (by omega) he (by omega) hR hH hb hc k
  -- how many of a slot
  have L94 : ∀ (n j i e s c : Nat) (hd : Hd) (M : Mem), j + n = e → i ≤ j → e ≤ pln g → s < 8 → c ≤ 10 + j → RC g M → HM hd M → hB hd → c + cnt (fun j => slO g (kdA g j) == s) n j = slC g i e s → (∀ M' o5 o6, sT M M' → HM (slS g i e s hd) M' → hB (slS g i e s hd) → JE E (d + 3) n_M_planTicks 81 [some (.inr 31), some (.inl (nI i)), some (.inl (nI e)), some (.inl 0), some (.inl (nI (s + 1))), o5, o6] [] M' Q) → JE E (d + 3) n_M_planTicks 94 [some (.inr 31), some (.inl (nI i)), some (.inl (nI e)), some (.inl 0), some (.inl (nI s)), some (.inl (nI c)), some (.inl (nI j))] [] M Q := by
    intro n
    induction n with
    | zero =>
      intro j i e s c hd M hj hij he hs hcb hR hH hb hc k
      rw [cnt, Nat.add_zero] at hc
      refine b_M_planTicks_94 _ _ _ _ _ _ ⟨fun _ => ⟨fun c2 => ?_, fun c2 => ?_⟩, fun c1 => absurd (nI_le (by omega) (by omega)) c1⟩
      · rw [zero_nI, nI_leI (by omega) (by omega)] at c2
        have e0 : c = 0 := by omega
        have e1 : slS g i e s hd = hd := by unfold slS; rw [if_neg (by omega)]
        have e2 : mset M 31 24 (M 31 24 + nI c * M 31 12) = mset M 31 24 (M 31 24 + nI 0) := by rw [e0, hR.2.2.2 12 (by omega) (by omega), pk_mul, Nat.zero_mul]
        rw [e2, nI_1]
        refine k _ _ _ (sT.set 24 _ (by omega) (by omega)) ?_ ?_
        · rw [e1]; exact hH.add 0
        · rw [e1]; exact hb
      · rw [zero_nI, nI_leI (by omega) (by omega)] at c2
        rw [show (20 : Int32) * nI s = nI (20 * s) from pk_mul 20 s]
        refine c_M_goes (x := 20 * s) (y := 0) hH hb (by omega) (by omega) (fun M1 s1 H1 => ?_)
        rw [(hR.sT s1).2.2.2 12 (by omega) (by omega), pk_mul, nI_1]
        have e1 : slS g i e s hd = hAdd (hGo hd (20 * s) 0) (c * g 31 12) := by unfold slS; rw [if_pos (by omega), hc]
        refine k _ _ _ (s1.tr (sT.set 24 _ (by omega) (by omega))) ?_ ?_
        · rw [e1]; exact H1.add _
        · rw [e1]; exact hB_add (hB_go hb (by omega) (by omega))
    | succ n ih =>
      intro j i e s c hd M hj hij he hs hcb hR hH hb hc k
      have hk := hW.kd (i := j) (by omega)
      rw [cnt_succ_if] at hc
      have hsl := slO_le g (kdA g j)
      have e8s : e8 (slO g (kdA g j)) = nI s ↔ slO g (kdA g j) = s := by
        unfold e8
        by_cases q : slO g (kdA g j) < 8
        · rw [if_pos q, nI_eq (by omega) (by omega)]
        · rw [if_neg q]
          exact ⟨fun z => absurd z.symm (nI_neg1 s (by omega)), fun z => by omega⟩
      refine b_M_planTicks_94 _ _ _ _ _ _ ⟨fun c1 => absurd c1 (nI_ge (by omega) (by omega)), fun _ => c_M_kindAt hR hW (by omega) (c_M_slotOf hR hW hk ⟨fun c2 => ?_, fun c2 => ?_⟩)⟩
      · rw [e8s] at c2
        have e0 : (slO g (kdA g j) == s) = false := by simpa using c2
        rw [e0] at hc
        have := ih (j + 1) i e s (c + 0) hd M (by omega) (by omega) he hs (by omega) hR hH hb hc k
        rw [← nI_1, ← nI_add] at this
        exact this
      · rw [e8s] at c2
        have e0 : (slO g (kdA g j) == s) = true := by simpa using c2
        rw [e0] at hc
        have := ih (j + 1) i e s (c + 1) hd M (by omega) (by omega) he hs (by omega) hR hH hb hc k
        rw [← nI_1, ← nI_1] at this
        exact this
  -- the slots
  have L81 : ∀ (n s i e : Nat) (hd : Hd) (M : Mem) (o5 o6 : Option V), s + n = 8 → i ≤ e → e ≤ pln g → RC g M → HM hd M → hB hd → (∀ M' o5 o6, sT M M' → HM (slF g i e n s hd) M' → hB (slF g i e n s hd) → JE E (d + 3) n_M_planTicks 171 [some (.inr 31), some (.inl (nI i)), some (.inl (nI e)), some (.inl 0), some (.inl (nI i)), o5, o6] [] M' Q) → JE E (d + 3) n_M_planTicks 81 [some (.inr 31), some (.inl (nI i)), some (.inl (nI e)), some (.inl 0), some (.inl (nI s)), o5, o6] [] M Q := by
    intro n
    induction n with
    | zero =>
      intro s i e hd M o5 o6 hs hie he hR hH hb k
      refine b_M_planTicks_81 _ _ _ _ _ _ ⟨fun _ => k M _ _ sT.rf hH hb, fun c1 => absurd (nI_le (a := 8) (by omega) (by omega)) c1⟩
    | succ n ih =>
      intro s i e hd M o5 o6 hs hie he hR hH hb k
      refine b_M_planTicks_81 _ _ _ _ _ _ ⟨fun c1 => absurd c1 (nI_ge (b := 8) (by omega) (by omega)), fun _ => ?_⟩
      refine L94 (e - i) i i e s 0 hd M (by omega) (by omega) he (by omega) (by omega) hR hH hb (by rw [Nat.zero_add]; rfl) (fun M1 o5 o6 s1 H1 hb1 => ?_)
      exact ih (s + 1) i e (slS g i e s hd) M1 o5 o6 (by omega) hie he (hR.sT s1) H1 hb1 (fun M' o5 o6 s2 => k M' o5 o6 (s1.tr s2))
  -- a tour
  have L62 : ∀ (i e : Nat) (hd : Hd) (M : Mem) (o3 o4 o5 o6 : Option V), i < e → e ≤ pln g → RC g M → HM hd M → hB hd → hd.2.2.1 = nzA g i ∨ True → (∀ M' o2 o3 o4 o5 o6, sT M M' → HM (plF g (e - i) i (lkF g i e (slF g i e 8 0 (hd.1, hd.2.1, nzA g i, hd.2.2.2)))) M' → hB (plF g (e - i) i (lkF g i e (slF g i e 8 0 (hd.1, hd.2.1, nzA g i, hd.2.2.2)))) → JE E (d + 3) n_M_planTicks 6 [some (.inr 31), some (.inl (nI e)), o2, o3, o4, o5, o6] [] M' Q) → JE E (d + 3) n_M_planTicks 62 [some (.inr 31), some (.inl (nI i)), some (.inl (nI e)), o3, o4, o5, o6] [] M Q := by
    intro i e hd M o3 o4 o5 o6 hie he hR hH hb _ k
    have hk := hW.kd (i := i) (by omega)
    have m34 := hR.at 34 (by omega) (by omega) (by omega)
    refine b_M_planTicks_62 _ _ _ _ _ _ (c_M_kindAt hR hW (by omega) ⟨vp_in_nI hk (by omega), ?_⟩)
    rw [nI_clamp (by omega), m34]
    have s0 : sT M (mset M 31 23 (nI (g 34 (kdA g i)))) := sT.set 23 _ (by omega) (by omega)
    have H0 : HM (hd.1, hd.2.1, nzA g i, hd.2.2.2) (mset M 31 23 (nI (g 34 (kdA g i)))) := by
      unfold HM
      simp only [mset_eq, upd]
      exact ⟨hH.1, hH.2.1, rfl, hH.2.2.2⟩
    refine L81 8 0 i e _ _ _ _ (by omega) (by omega) he (hR.sT s0) H0 ⟨hb.1, hb.2.1, (hW.2.2.2.1 _ hk).2.2.1⟩ (fun M1 o5 o6 s1 H1 hb1 => ?_)
    refine L171 (e - i) i i e 0 _ M1 _ _ (by omega) (by omega) he (by omega) (hR.sT (s0.tr s1)) H1 hb1 (by rw [Nat.zero_add]; rfl) (fun M2 o1 o3 o5 o6 s2 H2 hb2 => ?_)
    exact L235 (e - i) i e _ M2 _ _ _ _ (by omega) he (hR.sT ((s0.tr s1).tr s2)) H2 hb2 (fun M' o2 o3 o4 o5 o6 s3 => k M' o2 o3 o4 o5 o6 (((s0.tr s1).tr s2).tr s3))
  -- the end of a tour
  have L18 : ∀ (n j i : Nat) (hd : Hd) (M : Mem) (o3 o4 o5 o6 : Option V), j + n = pln g → i < j → i < pln g → enT g i = fst (fun j => bgn g j) n j → RC g M → HM hd M → hB hd → (∀ M' o2 o3 o4 o5 o6, sT M M' → HM (trF g i (enT g i) hd) M' → hB (trF g i (enT g i) hd) → JE E (d + 3) n_M_planTicks 6 [some (.inr 31), some (.inl (nI (enT g i))), o2, o3, o4, o5, o6] [] M' Q) → JE E (d + 3) n_M_planTicks 18 [some (.inr 31), some (.inl (nI i)), some (.inl (nI j)), o3, o4, o5, o6] [] M Q := by
    have fin : ∀ (j i : Nat) (hd : Hd) (M : Mem) (o3 o4 o5 o6 : Option V), i < j → j ≤ pln g → enT g i = j → RC g M → HM hd M → hB hd → (∀ M' o2 o3 o4 o5 o6, sT M M' → HM (trF g i (enT g i) hd) M' → hB (trF g i (enT g i) hd) → JE E (d + 3) n_M_planTicks 6 [some (.inr 31), some (.inl (nI (enT g i))), o2, o3, o4, o5, o6] [] M' Q) →
        CE E (d + 2) n_M_kindAt [.inr 31, .inl (nI i)] M (fun r2 M2 => vp_in r2 8 ∧ ((M 31 23) = (M2 34 (Int32.toNatClampNeg r2)) → JE E (d + 2 + 1) n_M_planTicks 62 [some (.inr 31), some (.inl (nI i)), some (.inl (nI j)), o3, o4, o5, o6] [] M2 Q) ∧ (¬ (M 31 23) = (M2 34 (Int32.toNatClampNeg r2)) → JE E (d + 2 + 1) n_M_planTicks 62 [some (.inr 31), some (.inl (nI i)), some (.inl (nI j)), o3, o4, o5, o6] [] (mset M2 31 24 ((M2 31 24) + (M2 31 15))) Q)) := by
      intro j i hd M o3 o4 o5 o6 hij hj hen hR hH hb k
      have hk := hW.kd (i := i) (by omega)
      have m34 := hR.at 34 (by omega) (by omega) (by omega)
      rw [hen] at k
      refine c_M_kindAt hR hW (by omega) ⟨vp_in_nI hk (by omega), fun c1 => ?_, fun c1 => ?_⟩
      · rw [nI_clamp (by omega), m34, hH.2.2.1, nI_eq (by have := hb.2.2; omega) (by have := (hW.2.2.2.1 _ hk).2.2.1; omega)] at c1
        have e1 : (hd.1, hd.2.1, nzA g i, hd.2.2.2) = hBear hd (nzA g i) (g 31 15) := by
          unfold hBear
          rw [if_pos (show hd.2.2.1 = nzA g i from c1), show nzA g i = hd.2.2.1 from c1.symm]
        refine L62 i j hd M _ _ _ _ hij hj hR hH hb (Or.inr trivial) ?_
        rw [e1]
        exact k
      · rw [nI_clamp (by omega), m34, hH.2.2.1, nI_eq (by have := hb.2.2; omega) (by have := (hW.2.2.2.1 _ hk).2.2.1; omega)] at c1
        rw [hR.2.2.2 15 (by omega) (by omega)]
        have e1 : ((hAdd hd (g 31 15)).1, (hAdd hd (g 31 15)).2.1, nzA g i, (hAdd hd (g 31 15)).2.2.2) = hBear hd (nzA g i) (g 31 15) := by
          unfold hBear
          rw [if_neg (show ¬ hd.2.2.1 = nzA g i from c1)]
          rfl
        have s0 : sT M (mset M 31 24 (M 31 24 + nI (g 31 15))) := sT.set 24 _ (by omega) (by omega)
        refine L62 i j (hAdd hd (g 31 15)) _ _ _ _ _ hij hj (hR.sT s0) (hH.add _) (hB_add hb) (Or.inr trivial) ?_
        rw [e1]
        exact fun M' o2 o3 o4 o5 o6 s1 => k M' o2 o3 o4 o5 o6 (s0.tr s1)
    intro n
    induction n with
    | zero =>
      intro j i hd M o3 o4 o5 o6 hj hij hil hen hR hH hb k
      refine b_M_planTicks_18 _ _ _ _ _ _ (c_M_begins1 hR hW (by omega) ⟨fun _ => fin j i hd M _ _ _ _ hij (by omega) hen hR hH hb k, fun c1 => ?_⟩)
      rw [b2_z] at c1
      simp at c1
      omega
    | succ n ih =>
      intro j i hd M o3 o4 o5 o6 hj hij hil hen hR hH hb k
      rw [fst] at hen
      refine b_M_planTicks_18 _ _ _ _ _ _ (c_M_begins1 hR hW (by omega) ⟨fun c1 => ?_, fun c1 => ?_⟩)
      · rw [b2_nz] at c1
        have c2 : bgn g j = true := by
          simp only [Bool.or_eq_true, decide_eq_true_eq] at c1
          rcases c1 with q | q
          · omega
          · exact q
        rw [if_pos c2] at hen
        exact fin j i hd M _ _ _ _ hij (by omega) hen hR hH hb k
      · rw [b2_z] at c1
        simp only [Bool.or_eq_false_iff] at c1
        rw [if_neg (by rw [c1.2]; decide)] at hen
        rw [nI_1]
        exact ih (j + 1) i hd M _ _ _ _ (by omega) (by omega) hil hen hR hH hb k
  have L6 : ∀ (n i : Nat) (hd : Hd) (M : Mem) (o2 o3 o4 o5 o6 : Option V), i ≤ pln g → pln g ≤ i + n → RC g M → HM hd M → hB hd → (∀ M', sT M M' → Q (nI (tkF g n i hd).2.2.2) M') → JE E (d + 3) n_M_planTicks 6 [some (.inr 31), some (.inl (nI i)), o2, o3, o4, o5, o6] [] M Q := by
    intro n
    induction n with
    | zero =>
      intro i hd M o2 o3 o4 o5 o6 hi hin hR hH hb k
      have h16 : M 31 16 = nI (pln g) := hR.2.2.2 16 (by omega) (by omega)
      refine b_M_planTicks_6 _ _ _ _ _ _ ⟨fun _ => ?_, fun c1 => absurd (by rw [h16]; exact nI_le (by omega) (by omega)) c1⟩
      rw [hH.2.2.2]
      exact k M sT.rf
    | succ n ih =>
      intro i hd M o2 o3 o4 o5 o6 hi hin hR hH hb k
      have h16 : M 31 16 = nI (pln g) := hR.2.2.2 16 (by omega) (by omega)
      rw [tkF] at k
      refine b_M_planTicks_6 _ _ _ _ _ _ ⟨fun c1 => ?_, fun c1 => ?_⟩
      · rw [h16, nI_leI (by omega) (by omega)] at c1
        rw [hH.2.2.2]
        rw [if_neg (by omega)] at k
        exact k M sT.rf
      · rw [h16, nI_leI (by omega) (by omega)] at c1
        rw [if_pos (by omega)] at k
        have he := enT_le g (i := i) (by omega)
        rw [nI_1]
        refine L18 (pln g - (i + 1)) (i + 1) i hd M _ _ _ _ (by omega) (by omega) (by omega) rfl hR hH hb (fun M1 o2 o3 o4 o5 o6 s1 H1 hb1 => ?_)
        exact ih (enT g i) _ M1 _ _ _ _ _ (by omega) (by omega) (hR.sT s1) H1 hb1 (fun M' s2 => k M' (s1.tr s2))
  refine CE_of rfl (b_M_planTicks_0 (CE_of rfl (b_M_begins0_0 ?_)))
  have s0 : sT M (mset (mset (mset (mset M 31 21 0) 31 22 0) 31 23 0) 31 24 0) := (((sT.set 21 _ (by omega) (by omega)).tr (sT.set 22 _ (by omega) (by omega))).tr (sT.set 23 _ (by omega) (by omega))).tr (sT.set 24 _ (by omega) (by omega))
  refine L6 (pln g) 0 (0, 0, 0, 0) _ _ _ _ _ _ (by omega) (by omega) (hR.sT s0) ?_ ⟨Nat.zero_le _, Nat.zero_le _, Nat.zero_le _⟩ (fun M' s1 => h M' (s0.tr s1))
  unfold HM
  simp only [mset_eq, upd]
  exact ⟨rfl, rfl, rfl, rfl⟩
end MT
