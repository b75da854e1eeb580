/-! The reference: a run. -/
def MR (g : GS) (rs : RS) (M : Mem) : Prop := RC (sG g 41 rs.2.1) M ∧ (∀ p, M 48 p = nI (rs.1 p)) ∧ HM rs.2.2.1 M ∧ M 31 33 = nI rs.2.2.2.1 ∧ M 31 34 = nI rs.2.2.2.2
def MX (g : GS) (M : Mem) : Prop := (∀ n, M 43 n = nI (g 43 n)) ∧ M 31 19 = nI (g 31 19)
def sR (M M' : Mem) : Prop := (∀ k, k ≠ 31 → k ≠ 41 → k ≠ 48 → k ≠ 49 → k ≠ 50 → M' k = M k) ∧ ∀ j, (j < 21 ∨ 24 < j) → (j < 33 ∨ 34 < j) → M' 31 j = M 31 j
def agR (M M' : Mem) : Prop := (∀ k, 32 ≤ k → k ≤ 42 → M' k = M k) ∧ M' 48 = M 48 ∧ ∀ j, j ≤ 24 ∨ j = 33 ∨ j = 34 → M' 31 j = M 31 j
section RM
variable {E : Env0} {d : Nat} {M : Mem} {Q : Int32 → Mem → Prop} {g : GS} {rs : RS}
theorem sR.rf : sR M M := ⟨fun _ _ _ _ _ _ => rfl, fun _ _ _ => rfl⟩
theorem sR.tr {M1 M2 : Mem} (h1 : sR M M1) (h2 : sR M1 M2) : sR M M2 := ⟨fun k a b c d e => (h2.1 k a b c d e).trans (h1.1 k a b c d e), fun j a b => (h2.2 j a b).trans (h1.2 j a b)⟩
theorem sR.set (k j : Nat) (x : Int32) (h : k = 41 ∨ k = 48 ∨ k = 49 ∨ k = 50) : sR M (mset M k j x) := ⟨fun k' _ b c d e => mset_ne M j x (by omega), fun j' _ _ => by rw [mset_ne M j x (by omega)]⟩
theorem sR.set31 (j : Nat) (x : Int32) (h : (21 ≤ j ∧ j ≤ 24) ∨ (33 ≤ j ∧ j ≤ 34)) : sR M (mset M 31 j x) := by
  refine ⟨fun k' a _ _ _ _ => mset_ne M j x a, fun j' h1 h2 => ?_⟩
  rw [mset_eq]
  unfold upd
  rw [if_neg (by omega)]
theorem sR.ofT {M' : Mem} (h : sT M M') : sR M M' := ⟨fun k a _ _ _ _ => h.1 k a, fun j a _ => h.2 j a⟩
theorem MX.sR (hX : MX g M) {M' : Mem} (h : sR M M') : MX g M' := ⟨fun n => by rw [h.1 43 (by omega) (by omega) (by omega) (by omega) (by omega)]; exact hX.1 n, by rw [h.2 19 (by omega) (by omega)]; exact hX.2⟩
theorem MR.fr (h : MR g rs M) {M' : Mem} (e : agR M M') : MR g rs M' := by
  obtain ⟨⟨r1, r2, r3, r4⟩, h2, ⟨a1, a2, a3, a4⟩, h4, h5⟩ := h
  refine ⟨⟨fun k a b c j => ?_, fun j => ?_, ?_, fun j a b => ?_⟩, fun p => ?_, ⟨?_, ?_, ?_, ?_⟩, ?_, ?_⟩
  · rw [e.1 k a b]; exact r1 k a b c j
  · rw [e.1 40 (by omega) (by omega)]; exact r2 j
  · rw [e.2.2 4 (by omega)]; exact r3
  · rw [e.2.2 j (by omega)]; exact r4 j a b
  · rw [e.2.1]; exact h2 p
  · rw [e.2.2 21 (by omega)]; exact a1
  · rw [e.2.2 22 (by omega)]; exact a2
  · rw [e.2.2 23 (by omega)]; exact a3
  · rw [e.2.2 24 (by omega)]; exact a4
  · rw [e.2.2 33 (by omega)]; exact h4
  · rw [e.2.2 34 (by omega)]; exact h5
theorem MR.set (h : MR g rs M) (k j : Nat) (x : Int32) (hk : k = 49 ∨ k = 50 ∨ (k = 31 ∧ (j = 32 ∨ j = 35 ∨ j = 36))) : MR g rs (mset M k j x) := by
  refine h.fr ⟨fun k' a b => mset_ne M j x (by omega), mset_ne M j x (by omega), fun j' hj => ?_⟩
  by_cases e : k = 31
  · subst e
    rw [mset_eq]
    unfold upd
    rw [if_neg (by omega)]
  · rw [mset_ne M j x (fun q => e q.symm)]
theorem MR.st (h : MR g rs M) (p v : Nat) : MR g (fs rs.1 p v, rs.2) (mset M 48 p (nI v)) := by
  obtain ⟨r1, h2, a1, h4, h5⟩ := h
  have e31 : mset M 48 p (nI v) 31 = M 31 := mset_ne M p _ (by omega)
  refine ⟨⟨fun k a b c j => ?_, fun j => ?_, ?_, fun j a b => ?_⟩, fun q => ?_, ?_, ?_, ?_⟩
  · rw [mset_ne M p _ (by omega)]; exact r1.1 k a b c j
  · rw [mset_ne M p _ (by omega)]; exact r1.2.1 j
  · rw [e31]; exact r1.2.2.1
  · rw [e31]; exact r1.2.2.2 j a b
  · rw [mset_eq]
    show upd (M 48) p (nI v) q = nI (fs rs.1 p v q)
    unfold upd fs
    split
    · rfl
    · exact h2 q
  · unfold HM
    rw [e31]
    exact a1
  · rw [e31]; exact h4
  · rw [e31]; exact h5
/-- the head has moved -/
theorem MR.hd (h : MR g rs M) {M' : Mem} (s : sT M M') {h' : Hd} (H : HM h' M') : MR g (rsH rs h') M' := by
  obtain ⟨r1, h2, a1, h4, h5⟩ := h
  refine ⟨RC.sT r1 s, fun p => ?_, H, ?_, ?_⟩
  · rw [s.1 48 (by omega)]; exact h2 p
  · rw [s.2 33 (by omega)]; exact h4
  · rw [s.2 34 (by omega)]; exact h5
theorem Wk.sG41 (hW : Wk g) {pa : Nat → Nat} (h : ∀ s, s < 8 → pa s ≤ 100) : Wk (sG g 41 pa) := by
  obtain ⟨h1, h2, h3, h4, h5, h6, h7, h8, h9⟩ := hW
  exact ⟨h1, h2, h3, h4, h5, fun j hj => ⟨(h6 j hj).1, h j hj⟩, h7, h8, h9⟩
theorem c_M_isBehindMissing {p : Nat} (hM : MR g rs M) (hW : Wk g) (hb : rsB rs) (hp : p < 10) (h : Q (b2 (lmB g rs.1 p)) M) : CE E d n_M_isBehindMissing [.inr 31, .inl (nI p)] M Q := by
  have hp10 := hW.1
  have h4 : M 31 4 = nI (pls g) := hM.1.2.2.1
  have m39 : ∀ j, M 39 j = nI (g 39 j) := fun j => hM.1.at 39 (by omega) (by omega) (by omega) j
  refine CE_of rfl (b_M_isBehindMissing_0 _ ?_)
  have key : ∀ (n q : Nat), q + n = pls g → Q (b2 (decide (0 < cnt (fun q => ltB g p q && rs.1 q == 2) n q))) M → JE E d n_M_isBehindMissing 2 [some (.inr 31), some (.inl (nI p)), some (.inl (nI q))] [] M Q := by
    intro n
    induction n with
    | zero =>
      intro q hq hh
      exact b_M_isBehindMissing_2 _ _ ⟨fun _ => ⟨z01_0, hh⟩, fun c1 => absurd (by rw [h4]; exact nI_le (by omega) (by omega)) c1⟩
    | succ n ih =>
      intro q hq hh
      have l1 := hW.2.2.2.2.1 (10 * p + q)
      have s1 := hb.1 q
      rw [cnt] at hh
      have e10 : (10 : Int32) * nI p + nI q = nI (10 * p + q) := by
        rw [show (10 : Int32) = nI 10 from rfl, pk_mul, nI_add]
      refine b_M_isBehindMissing_2 _ _ ⟨fun c1 => absurd c1 (by rw [h4]; exact nI_ge (by omega) (by omega)), fun _ => ?_⟩
      rw [e10, nI_clamp (by omega), nI_clamp (by omega), m39, hM.2.1]
      have no : (ltB g p q && rs.1 q == 2) = false → JE E d n_M_isBehindMissing 2 [some (.inr 31), some (.inl (nI p)), some (.inl (nI q + 1))] [] M Q := by
        intro e0
        rw [e0] at hh
        simp only [Bool.false_eq_true, if_false, Nat.zero_add] at hh
        rw [nI_1]
        exact ih (q + 1) (by omega) hh
      refine ⟨vp_in_nI (by omega) (by omega), fun c2 => ?_, fun c2 => ⟨vp_in_nI (by omega) (by omega), fun c3 => ?_, fun c3 => ⟨z01_1, ?_⟩⟩⟩
      · rw [zero_nI, nI_eq (by omega) (by omega)] at c2
        exact no (by unfold ltB; rw [c2]; rfl)
      · rw [show (2 : Int32) = nI 2 from rfl, nI_eq (by omega) (by omega)] at c3
        refine no ?_
        rw [Bool.and_eq_false_iff]
        exact Or.inr (by simpa using c3)
      · rw [zero_nI, nI_eq (by omega) (by omega)] at c2
        rw [show (2 : Int32) = nI 2 from rfl, nI_eq (by omega) (by omega)] at c3
        have e0 : (ltB g p q && rs.1 q == 2) = true := by
          unfold ltB
          have : g 39 (10 * p + q) = 1 := by omega
          simp [this, c3]
        rw [e0] at hh
        have e1 : decide (0 < (if (true = true) then 1 else 0) + cnt (fun q => ltB g p q && rs.1 q == 2) n (q + 1)) = true := by simp; omega
        rw [e1] at hh
        exact hh
  exact key (pls g) 0 (by omega) h
theorem c_M_gives {p i j : Nat} {gv : Nat → Nat} (hM : MR g rs M) (hW : Wk g) (hb : rsB rs) (hp : p < 10) (hij : i ≤ j) (hj : j ≤ pln g) (hgv : ∀ j', i ≤ j' → j' < j → rs.1 (plc g j') = 0 → gv (plc g j') < 8 ∧ M 49 (plc g j') = nI (gv (plc g j'))) (h : Q (e8 (swP g rs.2.1 (usN g rs.1 gv i j) (g 38 p))) M) : CE E d n_M_gives [.inr 31, .inl (nI p), .inl (nI i), .inl (nI j)] M Q := by
  have hn := hW.2.1
  have hp10 := hW.1
  have hk8 := (hW.2.2.1 p hp).2.2
  have m40 : ∀ s, M 40 s = nI (g 40 s) - 1 := hM.1.2.1
  have m41 : ∀ s, M 41 s = nI (rs.2.1 s) := fun s => hM.1.at 41 (by omega) (by omega) (by omega) s
  have m38 : ∀ j, M 38 j = nI (g 38 j) := fun j => hM.1.at 38 (by omega) (by omega) (by omega) j
  have m42 : ∀ j, M 42 j = nI (g 42 j) := fun j => hM.1.at 42 (by omega) (by omega) (by omega) j
  refine CE_of rfl (b_M_gives_0 _ _ _ ?_)
  have key : ∀ (n s : Nat) (o5 o6 : Option V), s + n = 8 → Q (e8 (fst (fun s => g 40 s == g 38 p + 1 && decide (usN g rs.1 gv i j s < rs.2.1 s)) n s)) M → JE E d n_M_gives 3 [some (.inr 31), some (.inl (nI p)), some (.inl (nI i)), some (.inl (nI j)), some (.inl (nI s)), o5, o6] [] M Q := by
    intro n
    induction n with
    | zero =>
      intro s o5 o6 hs hq
      refine b_M_gives_3 _ _ _ _ _ _ ⟨fun _ => ?_, fun c1 => absurd (nI_le (a := 8) (by omega) (by omega)) c1⟩
      have e : fst (fun s => g 40 s == g 38 p + 1 && decide (usN g rs.1 gv i j s < rs.2.1 s)) 0 s = 8 := by unfold fst; omega
      rw [e] at hq
      exact hq
    | succ n ih =>
      intro s o5 o6 hs hq
      have h40 := (hW.2.2.2.2.2.1 s (by omega)).1
      rw [fst] at hq
      refine b_M_gives_3 _ _ _ _ _ _ ⟨fun c1 => absurd c1 (nI_ge (b := 8) (by omega) (by omega)), fun _ => ?_⟩
      rw [nI_clamp (by omega), nI_clamp (by omega), m40, m38, shift_eq (by omega) (by omega)]
      refine ⟨vp_in_nI (by omega) (by omega), vp_in_nI hp (by omega), fun c2 => ?_, fun c2 => ?_⟩
      · have inner : ∀ (m j' c : Nat), j' + m = j → i ≤ j' → c ≤ 10 + j' → c + cnt (fun j' => rs.1 (plc g j') == 0 && gv (plc g j') == s) m j' = usN g rs.1 gv i j s → JE E d n_M_gives 35 [some (.inr 31), some (.inl (nI p)), some (.inl (nI i)), some (.inl (nI j)), some (.inl (nI s)), some (.inl (nI c)), some (.inl (nI j'))] [] M Q := by
          intro m
          induction m with
          | zero =>
            intro j' c hj' hij' hc hcc
            rw [cnt, Nat.add_zero] at hcc
            have hpa := hb.2.1 s (by omega)
            refine b_M_gives_35 _ _ _ _ _ _ ⟨fun _ => ?_, fun c1 => absurd (nI_le (by omega) (by omega)) c1⟩
            rw [nI_clamp (by omega), m41, nI_leI (by omega) (by omega), hcc]
            refine ⟨vp_in_nI (by omega) (by omega), fun c3 => ?_, fun c3 => ?_⟩
            · rw [nI_1]
              refine ih (s + 1) _ _ (by omega) ?_
              rw [if_neg (by simp; omega)] at hq
              exact hq
            · rw [if_pos (by simp [c2]; omega)] at hq
              rw [e8, if_pos (by omega)] at hq
              exact hq
          | succ m ihm =>
            intro j' c hj' hij' hc hcc
            have hpj := hW.2.2.2.2.2.2.2.2 j' (by omega)
            have hst := hb.1 (plc g j')
            rw [cnt_succ_if] at hcc
            refine b_M_gives_35 _ _ _ _ _ _ ⟨fun c1 => absurd c1 (nI_ge (by omega) (by omega)), fun _ => ?_⟩
            simp (disch := omega) only [nI_clamp, m42, rem16]
            rw [show g 42 j' % 16 = plc g j' from rfl]
            simp (disch := omega) only [nI_clamp, hM.2.1]
            have no : (rs.1 (plc g j') == 0 && gv (plc g j') == s) = false → JE E d n_M_gives 35 [some (.inr 31), some (.inl (nI p)), some (.inl (nI i)), some (.inl (nI j)), some (.inl (nI s)), some (.inl (nI c + 0)), some (.inl (nI j' + 1))] [] M Q := by
              intro e0
              rw [e0] at hcc
              have := ihm (j' + 1) (c + 0) (by omega) (by omega) (by omega) hcc
              rw [← nI_1, ← nI_add] at this
              exact this
            have v1 : vp_in (nI j') 10 := vp_in_nI (by omega) (by omega)
            have v2 : vp_in (nI (plc g j')) 10 := vp_in_nI (by omega) (by omega)
            refine ⟨v1, nz16, v2, fun c3 => ?_, fun c3 => ⟨v1, nz16, v2, fun c4 => ?_, fun c4 => ?_⟩⟩
            · rw [zero_nI, nI_eq (by omega) (by omega)] at c3
              refine no ?_
              rw [Bool.and_eq_false_iff]
              exact Or.inl (by simpa using c3)
            · rw [zero_nI, nI_eq (by omega) (by omega)] at c3
              obtain ⟨q1, q2⟩ := hgv j' hij' (by omega) c3
              rw [q2, nI_eq (by omega) (by omega)] at c4
              refine no ?_
              rw [Bool.and_eq_false_iff]
              exact Or.inr (by simpa using c4)
            · rw [zero_nI, nI_eq (by omega) (by omega)] at c3
              obtain ⟨q1, q2⟩ := hgv j' hij' (by omega) c3
              rw [q2, nI_eq (by omega) (by omega)] at c4
              have e0 : (rs.1 (plc g j') == 0 && gv (plc g j') == s) = true := by simp [c3, c4]
              rw [e0] at hcc
              have := ihm (j' + 1) (c + 1) (by omega) (by omega) (by omega) hcc
              rw [← nI_1, ← nI_1] at this
              exact this
        exact inner (j - i) i 0 (by omega) (by omega) (by omega) (by rw [Nat.zero_add]; rfl)
      · rw [nI_1]
        refine ih (s + 1) _ _ (by omega) ?_
        rw [if_neg (by simp [c2])] at hq
        exact hq
  exact key 8 0 _ _ (by omega) h
end RM
