/-! The desk: a run. -/
def DT (g : GS) (rs : RS) (M : Mem) : Prop := DC (sG g 41 rs.2.1) M ∧ M 26 14 = nI (bitsOf (fun p => rs.1 p == 1) 10) ∧ M 26 15 = nI (bitsOf (fun p => rs.1 p == 2) 10) ∧ HD 27 rs.2.2.1 M ∧ M 26 10 = nI rs.2.2.2.1 ∧ M 26 11 = nI rs.2.2.2.2
def DX (g : GS) (M : Mem) : Prop := (∀ n, n ≤ 200 → M 28 n = nI (g 43 n)) ∧ M 26 6 = nI (g 31 19)
/-- what the steps of a tour may change -/
def sD (M M' : Mem) : Prop := (∀ k, k ≠ 13 → k ≠ 26 → k ≠ 27 → M' k = M k) ∧ ∀ j, j < 10 ∨ j = 12 ∨ j = 13 ∨ 15 < j → M' 26 j = M 26 j
def agD (M M' : Mem) : Prop := (∀ k, 1 ≤ k → k ≤ 16 → M' k = M k) ∧ M' 27 = M 27 ∧ ∀ j, j = 10 ∨ j = 11 ∨ j = 14 ∨ j = 15 → M' 26 j = M 26 j
theorem bits_set {f f' : Nat → Bool} {q n : Nat} (hq : q < n) (h : ∀ p, f' p = (f p || decide (p = q))) : bitsOf f' n = bitsOf f n ||| 2 ^ q := by
  apply bits_ext
  intro i
  rw [or_testBit, bitsOf_bit, bitsOf_bit, h]
  by_cases hi : i = q
  · subst hi
    simp [hq]
  · simp [hi]
section DU
variable {E : Env0} {d : Nat} {M : Mem} {Q : Int32 → Mem → Prop} {g : GS} {rs : RS}
theorem sD.rf : sD M M := ⟨fun _ _ _ _ => rfl, fun _ _ => rfl⟩
theorem sD.tr {M1 M2 : Mem} (h1 : sD M M1) (h2 : sD M1 M2) : sD M M2 := ⟨fun k a b c => (h2.1 k a b c).trans (h1.1 k a b c), fun j a => (h2.2 j a).trans (h1.2 j a)⟩
theorem sD.set26 (j : Nat) (x : Int32) (h : j = 10 ∨ j = 11 ∨ j = 14 ∨ j = 15) : sD M (mset M 26 j x) := by
  refine ⟨fun k' _ b _ => mset_ne M j x b, fun j' h1 => ?_⟩
  rw [mset_eq]
  unfold upd
  rw [if_neg (by omega)]
theorem sD.set13 (j : Nat) (x : Int32) : sD M (mset M 13 j x) := ⟨fun k' a _ _ => mset_ne M j x a, fun j' _ => by rw [mset_ne M j x (by omega)]⟩
theorem sD.ofH {M' : Mem} (h : sO 27 M M') : sD M M' := ⟨fun k _ _ c => h k c, fun j _ => by rw [h 26 (by omega)]⟩
theorem DX.sD (hX : DX g M) {M' : Mem} (h : sD M M') : DX g M' := ⟨fun n hn => by rw [h.1 28 (by omega) (by omega) (by omega)]; exact hX.1 n hn, by rw [h.2 6 (by omega)]; exact hX.2⟩
theorem DT.fr (h : DT g rs M) {M' : Mem} (e : agD M M') : DT g rs M' := by
  obtain ⟨h1, h2, h3, ⟨a1, a2, a3, a4⟩, h4, h5⟩ := h
  refine ⟨h1.fr e.1, ?_, ?_, ⟨?_, ?_, ?_, ?_⟩, ?_, ?_⟩
  · rw [e.2.2 14 (by omega)]; exact h2
  · rw [e.2.2 15 (by omega)]; exact h3
  · rw [e.2.1]; exact a1
  · rw [e.2.1]; exact a2
  · rw [e.2.1]; exact a3
  · rw [e.2.1]; exact a4
  · rw [e.2.2 10 (by omega)]; exact h4
  · rw [e.2.2 11 (by omega)]; exact h5
theorem DT.set (h : DT g rs M) (k j : Nat) (x : Int32) (hk : (27 < k) ∨ (k = 26 ∧ j ≠ 10 ∧ j ≠ 11 ∧ j ≠ 14 ∧ j ≠ 15)) : DT g rs (mset M k j x) := by
  refine h.fr ⟨fun k' a b => mset_ne M j x (by omega), mset_ne M j x (by omega), fun j' hj => ?_⟩
  by_cases e : k = 26
  · subst e
    rw [mset_eq]
    unfold upd
    rw [if_neg (by omega)]
  · rw [mset_ne M j x (fun q => e q.symm)]
theorem DT.hd (h : DT g rs M) {M' : Mem} (s : sO 27 M M') {h' : Hd} (H : HD 27 h' M') : DT g (rsH rs h') M' := by
  obtain ⟨h1, h2, h3, -, h4, h5⟩ := h
  refine ⟨h1.fr (fun k a b => s k (by omega)), ?_, ?_, H, ?_, ?_⟩
  · rw [s 26 (by omega)]; exact h2
  · rw [s 26 (by omega)]; exact h3
  · rw [s 26 (by omega)]; exact h4
  · rw [s 26 (by omega)]; exact h5
theorem DT.st2 (h : DT g rs M) {q : Nat} (hq : q < 10) (hn : rs.1 q ≠ 1) : DT g (fs rs.1 q 2, rs.2) (mset M 26 15 (M 26 15 ||| (1 <<< (nI q &&& 31)))) := by
  obtain ⟨h1, h2, h3, ⟨a1, a2, a3, a4⟩, h4, h5⟩ := h
  have ne : ∀ k, k ≠ 26 → mset M 26 15 (M 26 15 ||| (1 <<< (nI q &&& 31))) k = M k := fun k hk => mset_ne M _ _ hk
  have n26 : ∀ j, j ≠ 15 → mset M 26 15 (M 26 15 ||| (1 <<< (nI q &&& 31))) 26 j = M 26 j := fun j hj => by rw [mset_eq]; exact if_neg hj
  refine ⟨h1.fr (fun k a b => ne k (by omega)), ?_, ?_, ⟨?_, ?_, ?_, ?_⟩, ?_, ?_⟩
  · rw [n26 14 (by omega), h2]
    congr 1
    apply bitsOf_cong
    intro i
    show _ = (decide (i < 10) && (fs rs.1 q 2 i == 1))
    by_cases hi : i = q
    · have : (rs.1 i == 1) = false := by rw [hi]; simpa using hn
      rw [this, hi, fs_eq]
      rfl
    · rw [fs_ne _ _ hi]
  · rw [mset_eq, h3]
    show upd (M 26) 15 _ 15 = _
    unfold upd
    rw [if_pos rfl, or_bit _ _ (by omega)]
    congr 1
    refine (bits_set hq (fun p => ?_)).symm
    show (fs rs.1 q 2 p == 2) = _
    by_cases hi : p = q
    · rw [hi, fs_eq]; simp
    · rw [fs_ne _ _ hi]; simp [hi]
  · rw [ne 27 (by omega)]; exact a1
  · rw [ne 27 (by omega)]; exact a2
  · rw [ne 27 (by omega)]; exact a3
  · rw [ne 27 (by omega)]; exact a4
  · rw [n26 10 (by omega)]; exact h4
  · rw [n26 11 (by omega)]; exact h5
theorem DT.st1 (h : DT g rs M) {q : Nat} (hq : q < 10) (hn : rs.1 q ≠ 2) : DT g (fs rs.1 q 1, rs.2) (mset M 26 14 (M 26 14 ||| (1 <<< (nI q &&& 31)))) := by
  obtain ⟨h1, h2, h3, ⟨a1, a2, a3, a4⟩, h4, h5⟩ := h
  have ne : ∀ k, k ≠ 26 → mset M 26 14 (M 26 14 ||| (1 <<< (nI q &&& 31))) k = M k := fun k hk => mset_ne M _ _ hk
  have n26 : ∀ j, j ≠ 14 → mset M 26 14 (M 26 14 ||| (1 <<< (nI q &&& 31))) 26 j = M 26 j := fun j hj => by rw [mset_eq]; exact if_neg hj
  refine ⟨h1.fr (fun k a b => ne k (by omega)), ?_, ?_, ⟨?_, ?_, ?_, ?_⟩, ?_, ?_⟩
  · rw [mset_eq, h2]
    show upd (M 26) 14 _ 14 = _
    unfold upd
    rw [if_pos rfl, or_bit _ _ (by omega)]
    congr 1
    refine (bits_set hq (fun p => ?_)).symm
    show (fs rs.1 q 1 p == 1) = _
    by_cases hi : p = q
    · rw [hi, fs_eq]; simp
    · rw [fs_ne _ _ hi]; simp [hi]
  · rw [n26 15 (by omega), h3]
    congr 1
    apply bitsOf_cong
    intro i
    show _ = (decide (i < 10) && (fs rs.1 q 1 i == 2))
    by_cases hi : i = q
    · have : (rs.1 i == 2) = false := by rw [hi]; simpa using hn
      rw [this, hi, fs_eq]
      rfl
    · rw [fs_ne _ _ hi]
  · rw [ne 27 (by omega)]; exact a1
  · rw [ne 27 (by omega)]; exact a2
  · rw [ne 27 (by omega)]; exact a3
  · rw [ne 27 (by omega)]; exact a4
  · rw [n26 10 (by omega)]; exact h4
  · rw [n26 11 (by omega)]; exact h5
theorem t_placeAt (hD : DT g rs M) (hW : Wk g) (hb : rsB rs) {i : Nat} (hi : i < pln g) (h : Q (nI (plc g i)) M) : CE E d n_R_placeAt [.inr 15, .inl (nI i)] M Q := c_placeAt (g := sG g 41 rs.2.1) hD.1 (hW.sG41 hb.2.1) hi h
theorem t_beginsAt (hD : DT g rs M) (hW : Wk g) (hb : rsB rs) {i : Nat} (hi : i < pln g) (h : Q (b2 (bgn g i)) M) : CE E d n_R_beginsAt [.inr 15, .inl (nI i)] M Q := c_beginsAt (g := sG g 41 rs.2.1) hD.1 (hW.sG41 hb.2.1) hi h
theorem t_endOfTour (hD : DT g rs M) (hW : Wk g) (hb : rsB rs) {i : Nat} (hi : i < pln g) (h : Q (nI (enT g i)) M) : CE E (d + 1) n_R_endOfTour [.inr 15, .inl (nI i)] M Q := c_endOfTour (g := sG g 41 rs.2.1) hD.1 (hW.sG41 hb.2.1) hi h
theorem t_nozzleOf (hD : DT g rs M) (hW : Wk g) (hb : rsB rs) {p : Nat} (hp : p < pls g) (h : Q (nI (g 34 (g 38 p))) M) : CE E d n_B_nozzleOf [.inr 1, .inl (nI p)] M Q := c_nozzleOf (g := sG g 41 rs.2.1) hD.1 (hW.sG41 hb.2.1) hp h
theorem t_isFine (hD : DT g rs M) (hW : Wk g) (hb : rsB rs) {p : Nat} (hp : p < pls g) (h : Q (b2 (g 35 (g 38 p) == 1)) M) : CE E d n_B_isFine [.inr 1, .inl (nI p)] M Q := c_isFine (g := sG g 41 rs.2.1) hD.1 (hW.sG41 hb.2.1) hp h
theorem c_T_isMissing (hD : DT g rs M) {p : Nat} (hp : p < 10) (h : Q (b2 (rs.1 p == 2)) M) : CE E (d + 1) n_T_isMissing [.inr 26, .inl (nI p)] M Q := by
  refine CE_of rfl (b_T_isMissing_0 _ ?_)
  rw [hD.2.2.1]
  have hl := bitsOf_lt (fun p => rs.1 p == 2) 10
  refine c_D_hasBit (by omega) (by omega) ⟨b2_01 _, ?_⟩
  rw [bitsOf_bit]
  simp only [hp, decide_true, Bool.true_and]
  exact h
theorem c_T_isLateBehindMissing (hD : DT g rs M) (hW : Wk g) {p : Nat} (hp : p < pls g) (h : Q (b2 (lmB g rs.1 p)) M) : CE E d n_T_isLateBehindMissing [.inr 26, .inl (nI p)] M Q := by
  have h10 := hW.1
  have hl := bitsOf_lt (fun q => ltB g p q) (pls g)
  have hl2 : 2 ^ pls g ≤ 2 ^ 10 := Nat.pow_le_pow_right (by omega) h10
  have e10 : M 10 p = nI (bitsOf (fun q => ltB g p q) (pls g)) := (hD.1.2.1.2.1 p hp).2.2.2.2
  have key : nI (bitsOf (fun q => ltB g p q) (pls g)) &&& nI (bitsOf (fun p => rs.1 p == 2) 10) = 0 ↔ lmB g rs.1 p = false := by
    rw [and_z (by omega), ← Bool.not_eq_true, lm_iff]
    constructor
    · rintro h ⟨q, h1, h2, h3⟩
      have := h q (by rw [bitsOf_bit]; simp [h1, h2])
      rw [bitsOf_bit] at this
      simp [h3] at this
      omega
    · intro h i hi
      rw [bitsOf_bit] at hi ⊢
      simp at hi
      by_cases hs : rs.1 i = 2
      · exact absurd ⟨i, hi.1, hi.2, hs⟩ h
      · simp [hs]
  refine CE_of rfl (b_T_isLateBehindMissing_0 _ ⟨vp_in_nI (by omega) (by omega), fun c1 => ⟨z01_0, ?_⟩, fun c1 => ⟨z01_1, ?_⟩⟩)
  · rw [nI_clamp (by omega), e10, hD.2.2.1, key] at c1
    rw [c1] at h
    exact h
  · rw [nI_clamp (by omega), e10, hD.2.2.1, key, Bool.not_eq_false] at c1
    rw [c1] at h
    exact h
theorem c_T_loseLatePlaces {i e : Nat} (hD : DT g rs M) (hW : Wk g) (hb : rsB rs) (he : e ≤ pln g) (hie : i ≤ e) (h1 : ∀ j, i ≤ j → j < e → rs.1 (plc g j) ≠ 1) (k : ∀ M', sD M M' → DT g (loF g (e - i) i rs.1, rs.2) M' → Q 0 M') : CE E (d + 1) n_T_loseLatePlaces [.inr 26, .inl (nI i), .inl (nI e)] M Q := by
  have hn := hW.2.1
  have hp10 := hW.1
  have key : ∀ (n j : Nat) (st : Nat → Nat) (M1 : Mem) (o1 o4 : Option V), j + n = e → (∀ p, st p ≤ 2) → (∀ j', j ≤ j' → j' < e → st (plc g j') ≠ 1) → DT g (st, rs.2) M1 → sD M M1 → loF g n j st = loF g (e - i) i rs.1 → JE E (d + 1) n_T_loseLatePlaces 2 [some (.inr 26), o1, some (.inl (nI e)), some (.inl (nI j)), o4] [] M1 Q := by
    intro n
    induction n with
    | zero =>
      intro j st M1 o1 o4 hj hst hs1 hD1 s1 hfin
      rw [loF] at hfin
      rw [hfin] at hD1
      exact b_T_loseLatePlaces_2 _ _ _ _ ⟨fun _ => k M1 s1 hD1, fun c1 => absurd (nI_le (by omega) (by omega)) c1⟩
    | succ n ih =>
      intro j st M1 o1 o4 hj hst hs1 hD1 s1 hfin
      have hpj := hW.2.2.2.2.2.2.2.2 j (by omega)
      have hb1 : rsB ((st, rs.2) : RS) := ⟨hst, hb.2.1, hb.2.2.1, hb.2.2.2⟩
      rw [loF] at hfin
      refine b_T_loseLatePlaces_2 _ _ _ _ ⟨fun c1 => absurd c1 (nI_ge (by omega) (by omega)), fun _ => ?_⟩
      refine t_placeAt hD1 hW hb1 (by omega) (c_T_isLateBehindMissing hD1 hW (by omega) ⟨fun c2 => ?_, fun c2 => ?_⟩)
      · rw [b2_z] at c2
        have c2 : lmB g st (plc g j) = false := c2
        rw [c2, if_neg (by simp)] at hfin
        rw [nI_1]
        exact ih (j + 1) st M1 _ _ (by omega) hst (fun j' a b => hs1 j' (by omega) b) hD1 s1 hfin
      · rw [b2_nz] at c2
        have c2 : lmB g st (plc g j) = true := c2
        rw [if_pos c2] at hfin
        rw [nI_1]
        refine ih (j + 1) _ _ _ _ (by omega) (fun p => ?_) (fun j' a b => ?_) (hD1.st2 (by omega) (hs1 j (by omega) (by omega))) (s1.tr (sD.set26 15 _ (by omega))) hfin
        · unfold fs
          split
          · omega
          · exact hst p
        · unfold fs
          split
          · omega
          · exact hs1 j' (by omega) b
  refine CE_of rfl (b_T_loseLatePlaces_0 _ _ ?_)
  exact key (e - i) i rs.1 M _ _ (by omega) hb.1 h1 hD sD.rf rfl
theorem c_T_hasWanted {i e : Nat} (hD : DT g rs M) (hW : Wk g) (hb : rsB rs) (he : e ≤ pln g) (hie : i ≤ e) (h1 : ∀ j, i ≤ j → j < e → rs.1 (plc g j) ≠ 1) (h : Q (b2 (decide (0 < wnC g rs.1 i e))) M) : CE E (d + 2) n_T_hasWanted [.inr 26, .inl (nI i), .inl (nI e)] M Q := by
  have hn := hW.2.1
  have hp10 := hW.1
  have key : ∀ (n j : Nat) (o1 : Option V), j + n = e → i ≤ j → Q (b2 (decide (0 < cnt (fun j => rs.1 (plc g j) == 0) n j))) M → JE E (d + 2) n_T_hasWanted 2 [some (.inr 26), o1, some (.inl (nI e)), some (.inl (nI j))] [] M Q := by
    intro n
    induction n with
    | zero =>
      intro j o1 hj hij hq
      exact b_T_hasWanted_2 _ _ _ ⟨fun _ => ⟨z01_0, hq⟩, fun c1 => absurd (nI_le (by omega) (by omega)) c1⟩
    | succ n ih =>
      intro j o1 hj hij hq
      have hpj := hW.2.2.2.2.2.2.2.2 j (by omega)
      have hs := hb.1 (plc g j)
      have hs1 := h1 j hij (by omega)
      rw [cnt] at hq
      refine b_T_hasWanted_2 _ _ _ ⟨fun c1 => absurd c1 (nI_ge (by omega) (by omega)), fun _ => ?_⟩
      refine t_placeAt hD hW hb (by omega) (c_T_isMissing hD (by omega) ⟨fun c2 => ?_, fun c2 => ⟨z01_1, ?_⟩⟩)
      · rw [b2_nz, beq_iff_eq] at c2
        have e0 : (rs.1 (plc g j) == 0) = false := by rw [c2]; rfl
        rw [e0] at hq
        simp only [Bool.false_eq_true, if_false, Nat.zero_add] at hq
        rw [nI_1]
        exact ih (j + 1) _ (by omega) (by omega) hq
      · rw [b2_z] at c2
        have c2 : ¬ rs.1 (plc g j) = 2 := by simpa using c2
        have e0 : (rs.1 (plc g j) == 0) = true := by simp; omega
        rw [e0] at hq
        have e1 : decide (0 < (if (true = true) then 1 else 0) + cnt (fun j => rs.1 (plc g j) == 0) n (j + 1)) = true := by simp; omega
        rw [e1] at hq
        exact hq
  refine CE_of rfl (b_T_hasWanted_0 _ _ ?_)
  exact key (e - i) i _ (by omega) (by omega) h
theorem c_T_slotWithPart {k : Nat} {u : Nat → Nat} (hD : DT g rs M) (hW : Wk g) (hb : rsB rs) (hk : k < 8) (hu : ∀ s, s < 8 → M 30 s = nI (u s) ∧ u s ≤ 10) (h : Q (e8 (swP g rs.2.1 u k)) M) : CE E d n_T_slotWithPart [.inr 26, .inl (nI k)] M Q := by
  have key : ∀ (n s : Nat), s + n = 8 → Q (e8 (fst (fun s => g 40 s == k + 1 && decide (u s < rs.2.1 s)) n s)) M → JE E d n_T_slotWithPart 2 [some (.inr 26), some (.inl (nI k)), some (.inl (nI s))] [] M Q := by
    intro n
    induction n with
    | zero =>
      intro s hs hq
      refine b_T_slotWithPart_2 _ _ ⟨fun _ => ?_, fun c1 => absurd (nI_le (a := 8) (by omega) (by omega)) c1⟩
      have e : fst (fun s => g 40 s == k + 1 && decide (u s < rs.2.1 s)) 0 s = 8 := by unfold fst; omega
      rw [e] at hq
      exact hq
    | succ n ih =>
      intro s hs hq
      have h40 := (hW.2.2.2.2.2.1 s (by omega)).1
      have hpa := hb.2.1 s (by omega)
      obtain ⟨u1, u2⟩ := hu s (by omega)
      have e12 : M 12 s = nI (g 40 s) - 1 := (hD.1.2.2.1 s (by omega)).1
      have e13 : M 13 s = nI (rs.2.1 s) := (hD.1.2.2.1 s (by omega)).2
      have v : vp_in (nI s) 8 := vp_in_nI (by omega) (by omega)
      rw [fst] at hq
      refine b_T_slotWithPart_2 _ _ ⟨fun c1 => absurd c1 (nI_ge (b := 8) (by omega) (by omega)), fun _ => ?_⟩
      rw [nI_clamp (by omega), e12, e13, u1, shift_eq (by omega) (by omega), nI_leI (by omega) (by omega)]
      refine ⟨v, fun c2 => ?_, fun c2 => ⟨v, v, fun c3 => ?_, fun c3 => ?_⟩⟩
      · rw [if_neg (by simp [c2])] at hq
        rw [nI_1]
        exact ih (s + 1) (by omega) hq
      · rw [if_neg (by simp; omega)] at hq
        rw [nI_1]
        exact ih (s + 1) (by omega) hq
      · rw [if_pos (by simp [c2]; omega)] at hq
        rw [e8, if_pos (by omega)] at hq
        exact hq
  refine CE_of rfl (b_T_slotWithPart_0 _ ?_)
  exact key 8 0 (by omega) h
end DU
