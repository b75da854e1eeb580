/-! The reference's search for the best plan: its small loops. -/
section FN
variable {E : Env0} {d : Nat} {Q : Int32 → Mem → Prop}
theorem m_finds_238 {n : Nat} {x1 x2 x3 x4 x5 x7 : Int32} (hn : n ≤ 10) (o6 o8 : Option V) : ∀ (m j : Nat) (M : Mem), j + m = n → M 31 4 = nI n → (∀ M', sO 47 M M' → (∀ i, M' 47 i = if j ≤ i ∧ i < n then M 42 i else M 47 i) → JE E d n_M_finds 100 [some (.inr 31), some (.inl x1), some (.inl x2), some (.inl x3), some (.inl x4), some (.inl x5), o6, some (.inl (x7 + 1)), o8, some (.inl (nI n))] [] M' Q) → JE E d n_M_finds 238 [some (.inr 31), some (.inl x1), some (.inl x2), some (.inl x3), some (.inl x4), some (.inl x5), o6, some (.inl x7), o8, some (.inl (nI j))] [] M Q := by
  intro m
  induction m with
  | zero =>
    intro j M hj h4 k
    have hjn : j = n := by omega
    subst hjn
    refine b_M_finds_238 _ _ _ _ _ _ _ _ _ ⟨fun _ => k M sO.rf (fun i => by rw [if_neg (by omega)]), fun c => absurd (by rw [h4]; exact nI_le (by omega) (by omega)) c⟩
  | succ m ih =>
    intro j M hj h4 k
    have v : vp_in (nI j) 10 := vp_in_nI (by omega) (by omega)
    refine b_M_finds_238 _ _ _ _ _ _ _ _ _ ⟨fun c => absurd c (by rw [h4]; exact nI_ge (by omega) (by omega)), fun _ => ⟨v, v, ?_⟩⟩
    rw [nI_1, nI_clamp (by omega)]
    refine ih (j + 1) _ (by omega) (by rw [mset_ne _ _ _ (by omega)]; exact h4) (fun M' s' h' => k M' ((sO.set 47 _ _).tr s') (fun i => ?_))
    rw [h' i, mset_ne _ _ _ (show 42 ≠ 47 by omega), mset_eq]
    unfold upd
    by_cases q : i = j
    · rw [if_neg (by omega), if_pos q, if_pos (by omega), q]
    · by_cases q2 : j ≤ i ∧ i < n
      · rw [if_pos (by omega), if_pos q2]
      · rw [if_neg (by omega), if_neg q, if_neg q2]
theorem bit_one {w i : Nat} (hw : w < 2 ^ 31) (hi : i < 31) : (nI w >>> (nI i &&& 31)) &&& 1 = 1 ↔ w.testBit i = true := by
  rw [bit_at hw hi, one_nI, nI_eq (by omega) (by omega), Nat.testBit_eq_decide_div_mod_eq, decide_eq_true_eq]
theorem m_finds_fill {n w : Nat} {r : Nat → Nat} {x1 x2 x3 x4 x5 : Int32} (hn : n ≤ 10) (hw : w < 2 ^ 31) (o6 o9 : Option V) : ∀ (m j : Nat) (M : Mem), j + m = n → M 31 4 = nI n → (∀ i, i < n → M 46 i = nI (r i)) → (∀ M', sO 42 M M' → (∀ i, M' 42 i = if j ≤ i ∧ i < n then nI (cdM r w i) else M 42 i) → JE E (d + 1) n_M_finds 123 [some (.inr 31), some (.inl x1), some (.inl x2), some (.inl x3), some (.inl x4), some (.inl x5), o6, some (.inl (nI w)), some (.inl (nI n)), o9] [] M' Q) → JE E (d + 1) n_M_finds 123 [some (.inr 31), some (.inl x1), some (.inl x2), some (.inl x3), some (.inl x4), some (.inl x5), o6, some (.inl (nI w)), some (.inl (nI j)), o9] [] M Q := by
  intro m
  induction m with
  | zero =>
    intro j M hj h4 hr k
    have hjn : j = n := by omega
    subst hjn
    exact k M sO.rf (fun i => by rw [if_neg (by omega)])
  | succ m ih =>
    intro j M hj h4 hr k
    have v : vp_in (nI j) 10 := vp_in_nI (by omega) (by omega)
    have step : ∀ x : Int32, x = nI (cdM r w j) → JE E (d + 1) n_M_finds 123 [some (.inr 31), some (.inl x1), some (.inl x2), some (.inl x3), some (.inl x4), some (.inl x5), o6, some (.inl (nI w)), some (.inl (nI (j + 1))), o9] [] (mset M 42 j x) Q := by
      intro x hx
      refine ih (j + 1) _ (by omega) (by rw [mset_ne _ _ _ (by omega)]; exact h4) (fun i hi => by rw [mset_ne _ _ _ (by omega)]; exact hr i hi) (fun M' s' h' => k M' ((sO.set 42 _ _).tr s') (fun i => ?_))
      rw [h' i, mset_eq]
      unfold upd
      by_cases q : i = j
      · rw [if_neg (by omega), if_pos q, if_pos (by omega), q, hx]
      · by_cases q2 : j ≤ i ∧ i < n
        · rw [if_pos (by omega), if_pos q2]
        · rw [if_neg (by omega), if_neg q, if_neg q2]
    have e16 : ∀ a, nI a + 16 = nI (a + 16) := fun a => by rw [show (16 : Int32) = nI 16 from rfl, nI_add]
    refine b_M_finds_123 _ _ _ _ _ _ _ _ _ ⟨fun c => absurd c (by rw [h4]; exact nI_ge (by omega) (by omega)), fun _ => ⟨v, fun c1 => ⟨v, ?_⟩, fun c1 => ⟨fun c2 => ⟨v, ?_⟩, fun c2 => ⟨v, ?_⟩⟩⟩⟩
    · rw [zero_nI, nI_eq (by omega) (by omega)] at c1
      rw [nI_1, nI_clamp (by omega), hr j (by omega), e16]
      refine step _ ?_
      unfold cdM
      rw [if_pos (Or.inl c1)]
    · rw [zero_nI, nI_eq (by omega) (by omega)] at c1
      have ej : nI j - 1 = nI (j - 1) := by rw [show j = (j - 1) + 1 by omega, nI_sub1]; rfl
      rw [ej, bit_one hw (by omega)] at c2
      rw [nI_1, nI_clamp (by omega), hr j (by omega), Int32.add_zero]
      refine step _ ?_
      unfold cdM
      rw [if_neg (by intro z; rcases z with z | z; exact c1 z; exact c2 z)]
      rfl
    · rw [zero_nI, nI_eq (by omega) (by omega)] at c1
      have ej : nI j - 1 = nI (j - 1) := by rw [show j = (j - 1) + 1 by omega, nI_sub1]; rfl
      rw [ej, bit_one hw (by omega)] at c2
      rw [nI_1, nI_clamp (by omega), hr j (by omega), e16]
      refine step _ ?_
      unfold cdM
      rw [if_pos (Or.inr c2)]
end FN
