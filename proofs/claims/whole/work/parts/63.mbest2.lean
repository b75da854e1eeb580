/-! The reference's best plan. -/
section FQ
variable {E : Env0} {d : Nat} {M : Mem} {Q : Int32 → Mem → Prop} {g : GS}
theorem m_finds_7 {x1 : Int32} (o3 o4 o5 o6 o7 o8 o9 : Option V) : ∀ (m j : Nat) (M : Mem), j + m = 10 → (∀ M', sO 45 M M' → (∀ i, i < 10 → j ≤ i → M' 45 i = M 42 i) → (∀ i, i < j → M' 45 i = M 45 i) → JE E d n_M_finds 33 [some (.inr 31), some (.inl x1), some (.inl 0), o3, o4, o5, o6, o7, o8, o9] [] M' Q) → JE E d n_M_finds 7 [some (.inr 31), some (.inl x1), some (.inl (nI j)), o3, o4, o5, o6, o7, o8, o9] [] M Q := by
  intro m
  induction m with
  | zero =>
    intro j M hj k
    exact b_M_finds_7 _ _ _ _ _ _ _ _ _ ⟨fun _ => k M sO.rf (fun i a b => by omega) (fun _ _ => rfl), fun c => absurd (nI_le (a := 10) (by omega) (by omega)) c⟩
  | succ m ih =>
    intro j M hj k
    have v : vp_in (nI j) 10 := vp_in_nI (by omega) (by omega)
    refine b_M_finds_7 _ _ _ _ _ _ _ _ _ ⟨fun c => absurd c (nI_ge (b := 10) (by omega) (by omega)), fun _ => ⟨v, v, ?_⟩⟩
    rw [nI_1, nI_clamp (by omega)]
    refine ih (j + 1) _ (by omega) (fun M' s' h1 h2 => k M' ((sO.set 45 _ _).tr s') (fun i a b => ?_) (fun i a => ?_))
    · by_cases q : i = j
      · rw [h2 i (by omega), mset_eq, q]
        exact if_pos rfl
      · rw [h1 i a (by omega), mset_ne _ _ _ (by omega)]
    · rw [h2 i (by omega), mset_eq]
      exact if_neg (by omega)
theorem m_finds_33 {n : Nat} {x1 : Int32} (hn : n ≤ 10) (o7 o8 o9 : Option V) : ∀ (m j : Nat) (M : Mem) (o3 o4 o5 o6 : Option V), j + m = n → M 31 4 = nI n → (∀ i, i < j → M 46 i = nI i) → (∀ M', sO 46 M M' → (∀ i, i < n → M' 46 i = nI i) → JE E d n_M_finds 92 [some (.inr 31), some (.inl x1), some (.inl (M 31 21)), some (.inl (M 31 22)), some (.inl (M 31 23)), some (.inl (M 31 24)), some (.inl 1), o7, o8, o9] [] (mset (mset M' 31 16 (nI n)) 31 29 (-1)) Q) → JE E d n_M_finds 33 [some (.inr 31), some (.inl x1), some (.inl (nI j)), o3, o4, o5, o6, o7, o8, o9] [] M Q := by
  intro m
  induction m with
  | zero =>
    intro j M o3 o4 o5 o6 hj h4 hm k
    refine b_M_finds_33 _ _ _ _ _ _ _ _ _ ⟨fun _ => ?_, fun c => absurd (by rw [h4]; exact nI_le (by omega) (by omega)) c⟩
    rw [h4]
    exact k M sO.rf (fun i hi => hm i (by omega))
  | succ m ih =>
    intro j M o3 o4 o5 o6 hj h4 hm k
    have v : vp_in (nI j) 10 := vp_in_nI (by omega) (by omega)
    refine b_M_finds_33 _ _ _ _ _ _ _ _ _ ⟨fun c => absurd c (by rw [h4]; exact nI_ge (by omega) (by omega)), fun _ => ⟨v, ?_⟩⟩
    rw [nI_1, nI_clamp (by omega)]
    refine ih (j + 1) _ _ _ _ _ (by omega) (by rw [mset_ne _ _ _ (by omega)]; exact h4) (fun i hi => ?_) (fun M' s' h' => ?_)
    · rw [mset_eq]
      unfold upd
      by_cases q : i = j
      · rw [if_pos q, q]
      · rw [if_neg q]; exact hm i (by omega)
    · rw [mset_ne _ _ _ (show 31 ≠ 46 by omega)]
      exact k M' ((sO.set 46 _ _).tr s') h'
theorem c_M_finds (hR : RC g M) (hW : Wk g) (hn1 : 1 ≤ pls g) (k : ∀ M', (∀ k', k' ≠ 31 → k' ≠ 45 → k' ≠ 46 → k' ≠ 47 → M' k' = M k') → (∀ j, j ≠ 28 → j ≠ 29 → M' 31 j = M 31 j) → M' 31 28 = 1 → BS g (M' 31 29) (M' 47) → Q 0 M') : CE E (d + 4) n_M_finds [.inr 31] M Q := by
  have hp10 := hW.1
  refine CE_of rfl (b_M_finds_0 ?_)
  refine m_finds_7 _ _ _ _ _ _ _ 10 0 M (by omega) (fun M1 s1 h1 _ => ?_)
  refine m_finds_33 (n := pls g) hp10 _ _ _ (pls g) 0 M1 _ _ _ _ (by omega) (by rw [s1 31 (by omega)]; exact hR.2.2.1) (fun i hi => by omega) (fun M2 s2 h2 => ?_)
  rw [s1 31 (by omega)]
  have ne : ∀ k', k' ≠ 31 → k' ≠ 45 → k' ≠ 46 → mset (mset M2 31 16 (nI (pls g))) 31 29 (-1) k' = M k' := fun k' a b c => by
    rw [mset_ne _ _ _ a, mset_ne _ _ _ a, s2 k' c, s1 k' b]
  have n31 : ∀ j, j ≠ 16 → j ≠ 29 → mset (mset M2 31 16 (nI (pls g))) 31 29 (-1) 31 j = M 31 j := fun j a b => by
    simp only [mset_eq, upd]
    rw [if_neg b, if_neg a, s2 31 (by omega), s1 31 (by omega)]
  have n16 : mset (mset M2 31 16 (nI (pls g))) 31 29 (-1) 31 16 = nI (pls g) := by simp [mset_eq, upd]
  have n29 : mset (mset M2 31 16 (nI (pls g))) 31 29 (-1) 31 29 = -1 := by simp [mset_eq, upd]
  have n46 : ∀ j, j < pls g → mset (mset M2 31 16 (nI (pls g))) 31 29 (-1) 46 j = nI j := fun j hj => by
    rw [mset_ne _ _ _ (by omega), mset_ne _ _ _ (by omega)]; exact h2 j hj
  have n45 : ∀ j, j < 10 → mset (mset M2 31 16 (nI (pls g))) 31 29 (-1) 45 j = nI (g 42 j) := fun j hj => by
    rw [mset_ne _ _ _ (by omega), mset_ne _ _ _ (by omega), s2 45 (by omega), h1 j hj (by omega)]
    exact hR.at 42 (by omega) (by omega) (by omega) j
  generalize mset (mset M2 31 16 (nI (pls g))) 31 29 (-1) = M3 at ne n31 n16 n29 n46 n45
  refine m_finds_loop hR hW hn1 k (10 ^ (pls g) + 1) (fun j => j) M3 _ _ _ (by omega) ⟨fun j hj => hj, fun i j hij hj => by show i ≠ j; omega⟩ n46 ⟨⟨g 42, ?_, fun _ _ => rfl⟩, fun k' a _ b c _ => ne k' a b c, n45, fun j a b c => n31 j a c⟩ (Or.inl ⟨n29, fun c hc hP => ?_⟩)
  · obtain ⟨r1, r2, r3, r4⟩ := hR
    refine ⟨fun k' a b c j => ?_, fun j => ?_, ?_, fun j a b => ?_⟩
    · rw [ne k' (by omega) (by omega) (by omega), r1 k' a b c j]
      have : gC g (g 42) k' = g k' := by
        by_cases q : k' = 42
        · subst q; rfl
        · have e1 : gC g (g 42) k' = g31 g 16 (pls g) k' := if_neg q
          rw [e1]
          exact if_neg (by omega)
      rw [this]
    · rw [ne 40 (by omega) (by omega) (by omega)]; exact r2 j
    · rw [n31 4 (by omega) (by omega)]; exact r3
    · by_cases q : j = 16
      · subst q; exact n16
      · rw [n31 j q (by omega), r4 j a b]
        have : gC g (g 42) 31 j = g 31 j := if_neg q
        rw [this]
  · exfalso
    rcases hP with ⟨k', k1, k2, k3⟩ | ⟨-, q⟩
    · have hv := (vC_row hc).1
      have : ∀ j, j < k' → roN c j = j := k2
      obtain ⟨m, a, b, e⟩ := later (k := k') (r := fun j => j) (s := roN c) ⟨fun j hj => hj, fun i j hij hj => by show i ≠ j; omega⟩ hv k1 (fun j hj => (k2 j hj).symm)
      have e : m = roN c k' := e
      have k3 : roN c k' < k' := k3
      omega
    · omega
/-- the copy of the best plan -/
theorem m_best_49 {n : Nat} (hn : n ≤ 10) : ∀ (m j : Nat) (M : Mem), j + m = n → M 31 4 = nI n → (∀ M', sO 42 M M' → (∀ i, M' 42 i = if j ≤ i ∧ i < n then M 47 i else M 42 i) → Q (M 31 29) (mset M' 31 30 0)) → JE E d n_M_best 49 [some (.inr 31), some (.inl (nI j))] [] M Q := by
  intro m
  induction m with
  | zero =>
    intro j M hj h4 k
    exact b_M_best_49 _ ⟨fun _ => ⟨z01_0, k M sO.rf (fun i => by rw [if_neg (by omega)])⟩, fun c => absurd (by rw [h4]; exact nI_le (by omega) (by omega)) c⟩
  | succ m ih =>
    intro j M hj h4 k
    have v : vp_in (nI j) 10 := vp_in_nI (by omega) (by omega)
    refine b_M_best_49 _ ⟨fun c => absurd c (by rw [h4]; exact nI_ge (by omega) (by omega)), fun _ => ⟨v, v, ?_⟩⟩
    rw [nI_1, nI_clamp (by omega)]
    refine ih (j + 1) _ (by omega) (by rw [mset_ne _ _ _ (by omega)]; exact h4) (fun M' s' h' => ?_)
    rw [mset_ne _ _ _ (show 31 ≠ 42 by omega)]
    refine k M' ((sO.set 42 _ _).tr s') (fun i => ?_)
    rw [h' i, mset_ne _ _ _ (show 47 ≠ 42 by omega), mset_eq]
    unfold upd
    by_cases q : i = j
    · rw [if_neg (by omega), if_pos q, if_pos (by omega), q]
    · by_cases q2 : j ≤ i ∧ i < n
      · rw [if_pos (by omega), if_pos q2]
      · rw [if_neg (by omega), if_neg q, if_neg q2]
/-- what best answers and leaves -/
theorem c_M_best (hR : RC g M) (hW : Wk g) (hK : KN g M)
    (k0 : ∀ M', (pls g = 0 ∨ 7 < pls g ∨ BS g (-1) (M' 47)) → (∀ k', k' ≠ 31 → k' ≠ 45 → k' ≠ 46 → k' ≠ 47 → M' k' = M k') → (∀ j, j ≠ 28 → j ≠ 29 → M' 31 j = M 31 j) → KN g M' → Q (-1) M')
    (k1 : ∀ M' l, 1 ≤ pls g → pls g ≤ 7 → l ≠ -1 → BS g l (M' 47) → (∀ k', k' ≠ 31 → k' ≠ 42 → k' ≠ 45 → k' ≠ 46 → k' ≠ 47 → M' k' = M k') → (∀ j, j ≠ 16 → j ≠ 28 → j ≠ 29 → j ≠ 30 → M' 31 j = M 31 j) → M' 31 16 = nI (pls g) → M' 31 30 = 0 → M' 31 28 = 1 → M' 31 29 = l → (∀ i, M' 42 i = if i < pls g then M' 47 i else M 42 i) → Q l M') : CE E (d + 5) n_M_best [.inr 31] M Q := by
  have hp10 := hW.1
  have h4 : M 31 4 = nI (pls g) := hR.2.2.1
  have fin : ∀ M1 : Mem, 1 ≤ pls g → pls g ≤ 7 → (∀ k', k' ≠ 31 → k' ≠ 45 → k' ≠ 46 → k' ≠ 47 → M1 k' = M k') → (∀ j, j ≠ 28 → j ≠ 29 → M1 31 j = M 31 j) → M1 31 28 = 1 → BS g (M1 31 29) (M1 47) → (¬ M1 31 29 = -1 → JE E (d + 5) n_M_best 49 [some (.inr 31), some (.inl 0)] [] (mset M1 31 16 (M1 31 4)) Q) ∧ (M1 31 29 = -1 → Q (-1) M1) := by
    intro M1 hn1 hn7 e1 e2 e3 hB
    refine ⟨fun c1 => ?_, fun c1 => k0 M1 (Or.inr (Or.inr (by rw [← c1]; exact hB))) e1 e2 (Or.inr ⟨e3, hB⟩)⟩
    have f4 : M1 31 4 = nI (pls g) := (e2 4 (by omega) (by omega)).trans h4
    rw [f4]
    refine m_best_49 (n := pls g) hp10 (pls g) 0 _ (by omega) (by rw [mset_eq]; exact f4) (fun M2 s2 h2 => ?_)
    have ne : ∀ k', k' ≠ 31 → k' ≠ 42 → mset M2 31 30 0 k' = M1 k' := fun k' a b => by rw [mset_ne _ _ _ a, s2 k' b, mset_ne _ _ _ a]
    have n31 : ∀ j, j ≠ 16 → j ≠ 30 → mset M2 31 30 0 31 j = M1 31 j := fun j a b => by
      simp only [mset_eq, upd]
      rw [if_neg b, s2 31 (by omega), mset_eq]
      exact if_neg a
    have e29 : mset M1 31 16 (nI (pls g)) 31 29 = M1 31 29 := by simp [mset_eq, upd]
    rw [e29]
    refine k1 _ (M1 31 29) hn1 hn7 c1 ?_ (fun k' a b c e f => ?_) (fun j a b c e => ?_) ?_ ?_ ?_ ?_ (fun i => ?_)
    · rw [ne 47 (by omega) (by omega)]; exact hB
    · rw [ne k' a b]; exact e1 k' a c e f
    · rw [n31 j a e]; exact e2 j b c
    · simp only [mset_eq, upd]
      rw [if_neg (by omega), s2 31 (by omega), mset_eq]
      exact if_pos rfl
    · rw [mset_eq]; exact if_pos rfl
    · rw [n31 28 (by omega) (by omega)]; exact e3
    · exact n31 29 (by omega) (by omega)
    · rw [ne 47 (by omega) (by omega), mset_ne _ _ _ (by omega), h2 i, mset_ne _ _ _ (show 47 ≠ 31 by omega), mset_ne _ _ _ (show 42 ≠ 31 by omega), e1 42 (by omega) (by omega) (by omega) (by omega)]
      by_cases q : i < pls g
      · rw [if_pos (by omega), if_pos q]
      · rw [if_neg (by omega), if_neg q]
  refine CE_of rfl (b_M_best_0 ⟨fun c1 => ?_, fun c1 => ⟨fun c2 => ⟨fun c3 => ?_, fun c3 => ?_⟩, fun c2 => ?_⟩⟩)
  · rw [h4, zero_nI, nI_eq (by omega) (by omega)] at c1
    exact k0 M (Or.inl c1) (fun _ _ _ _ _ => rfl) (fun _ _ _ => rfl) hK
  · rw [h4, zero_nI, nI_eq (by omega) (by omega)] at c1
    rw [h4, show (7 : Int32) = nI 7 from rfl, nI_leI (by omega) (by omega)] at c2
    rcases hK with hK | ⟨hK1, hK2⟩
    · exact absurd hK c3
    · exact fin M (by omega) c2 (fun _ _ _ _ _ => rfl) (fun _ _ _ => rfl) hK1 hK2
  · rw [h4, zero_nI, nI_eq (by omega) (by omega)] at c1
    rw [h4, show (7 : Int32) = nI 7 from rfl, nI_leI (by omega) (by omega)] at c2
    exact c_M_finds hR hW (by omega) (fun M1 e1 e2 e3 hB => fin M1 (by omega) c2 e1 e2 e3 hB)
  · rw [h4, show (7 : Int32) = nI 7 from rfl, nI_leI (by omega) (by omega)] at c2
    exact k0 M (Or.inr (Or.inl (by omega))) (fun _ _ _ _ _ => rfl) (fun _ _ _ => rfl) hK
end FQ
