/-! The reference's best plan: rows. -/
section MB
variable {E : Env0} {d : Nat} {M : Mem} {Q : Int32 → Mem → Prop} {g : GS}
theorem c_M_isLess {n : Nat} {c b : Nat → Nat} (hn : n ≤ 10) (h4 : M 31 4 = nI n) (hc : ∀ j, j < n → M 42 j = nI (c j) ∧ c j < 2 ^ 31) (hb : ∀ j, j < n → M 47 j = nI (b j) ∧ b j < 2 ^ 31) (k : ∀ r, (r = true ↔ ∃ j, j < n ∧ (∀ j', j' < j → c j' = b j') ∧ c j < b j) → Q (b2 r) M) : CE E d n_M_isLess [.inr 31] M Q := by
  have key : ∀ (m j : Nat), j + m = n → (∀ j', j' < j → c j' = b j') → JE E d n_M_isLess 2 [some (.inr 31), some (.inl (nI j))] [] M Q := by
    intro m
    induction m with
    | zero =>
      intro j hj heq
      refine b_M_isLess_2 _ ⟨fun _ => ⟨z01_0, k false ⟨fun z => absurd z (by decide), ?_⟩⟩, fun c1 => absurd (by rw [h4]; exact nI_le (by omega) (by omega)) c1⟩
      rintro ⟨i, a, -, e⟩
      have := heq i (by omega)
      omega
    | succ m ih =>
      intro j hj heq
      obtain ⟨c1, c2⟩ := hc j (by omega)
      obtain ⟨b1, b2'⟩ := hb j (by omega)
      have v : vp_in (nI j) 10 := vp_in_nI (by omega) (by omega)
      refine b_M_isLess_2 _ ⟨fun z => absurd z (by rw [h4]; exact nI_ge (by omega) (by omega)), fun _ => ?_⟩
      rw [nI_clamp (by omega), c1, b1, nI_eq c2 b2', nI_leI b2' c2, nI_1]
      refine ⟨v, v, fun e => ih (j + 1) (by omega) (fun j' hj' => ?_), fun e => ⟨v, v, fun l => ⟨z01_0, k false ⟨fun z => absurd z (by decide), ?_⟩⟩, fun l => ⟨z01_1, k true ⟨fun _ => ⟨j, by omega, heq, by omega⟩, fun _ => rfl⟩⟩⟩⟩
      · by_cases q : j' = j
        · rw [q]; exact e
        · exact heq j' (by omega)
      · rintro ⟨i, a, f, l2⟩
        by_cases q : i < j
        · have := heq i q
          omega
        · by_cases q2 : i = j
          · subst q2; omega
          · exact absurd (f j (by omega)) e
  exact CE_of rfl (b_M_isLess_0 (key n 0 (by omega) (fun j' z => by omega)))
theorem c_M_isInOrder {r : Nat → Nat} (hR : RC g M) (hW : Wk g) (hr : ∀ j, j < pls g → M 46 j = nI (r j) ∧ r j < 10) (k : ∀ o, (o = true ↔ ∀ i j, i < j → j < pls g → ahB g (r j) (r i) = false) → Q (b2 o) M) : CE E (d + 3) n_M_isInOrder [.inr 31] M Q := by
  have hp10 := hW.1
  have h4 : M 31 4 = nI (pls g) := hR.2.2.1
  have key : ∀ (m i : Nat) (o2 : Option V), i + m = pls g → (∀ i' j, i' < i → i' < j → j < pls g → ahB g (r j) (r i') = false) → JE E (d + 3) n_M_isInOrder 2 [some (.inr 31), some (.inl (nI i)), o2] [] M Q := by
    intro m
    induction m with
    | zero =>
      intro i o2 hi hok
      exact b_M_isInOrder_2 _ _ ⟨fun _ => ⟨z01_1, k true ⟨fun _ i' j a b => hok i' j (by omega) a b, fun _ => rfl⟩⟩, fun c1 => absurd (by rw [h4]; exact nI_le (by omega) (by omega)) c1⟩
    | succ m ih =>
      intro i o2 hi hok
      obtain ⟨r1, r2⟩ := hr i (by omega)
      have inner : ∀ (l j : Nat), j + l = pls g → i < j → (∀ j', i < j' → j' < j → ahB g (r j') (r i) = false) → JE E (d + 3) n_M_isInOrder 14 [some (.inr 31), some (.inl (nI i)), some (.inl (nI j))] [] M Q := by
        intro l
        induction l with
        | zero =>
          intro j hj hij hin
          refine b_M_isInOrder_14 _ _ ⟨fun _ => ?_, fun c1 => absurd (by rw [h4]; exact nI_le (by omega) (by omega)) c1⟩
          rw [nI_1]
          refine ih (i + 1) _ (by omega) (fun i' j' a b c => ?_)
          by_cases q : i' = i
          · subst q; exact hin j' b (by omega)
          · exact hok i' j' (by omega) b c
        | succ l ihl =>
          intro j hj hij hin
          obtain ⟨q1, q2⟩ := hr j (by omega)
          refine b_M_isInOrder_14 _ _ ⟨fun c1 => absurd c1 (by rw [h4]; exact nI_ge (by omega) (by omega)), fun _ => ⟨vp_in_nI (by omega) (by omega), vp_in_nI (by omega) (by omega), ?_⟩⟩
          rw [nI_clamp (by omega), nI_clamp (by omega), q1, r1, nI_1]
          refine c_M_isAhead hR hW q2 r2 ⟨fun c2 => ihl (j + 1) (by omega) (by omega) (fun j' a b => ?_), fun c2 => ⟨z01_0, k false ⟨fun z => absurd z (by decide), fun z => ?_⟩⟩⟩
          · by_cases q : j' = j
            · rw [q]; exact b2_z.mp c2
            · exact hin j' a (by omega)
          · have := z i j hij (by omega)
            rw [b2_nz, this] at c2
            exact absurd c2 (by decide)
      refine b_M_isInOrder_2 _ _ ⟨fun c1 => absurd c1 (by rw [h4]; exact nI_ge (by omega) (by omega)), fun _ => ?_⟩
      rw [nI_1]
      exact inner (pls g - (i + 1)) (i + 1) (by omega) (by omega) (fun j' a b => by omega)
  exact CE_of rfl (b_M_isInOrder_0 (key (pls g) 0 _ (by omega) (fun i' j z => by omega)))
end MB
