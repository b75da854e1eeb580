/-! Rows, in their order. -/
def pmN (n : Nat) (r : Nat → Nat) : Prop := (∀ j, j < n → r j < n) ∧ ∀ i j, i < j → j < n → r i ≠ r j
def ltR (n : Nat) (r s : Nat → Nat) : Prop := ∃ k, k < n ∧ (∀ j, j < k → r j = s j) ∧ r k < s k
theorem fallN {r : Nat → Nat} {i n : Nat} (h : ∀ j, i ≤ j → j + 1 < n → r (j + 1) < r j) : ∀ (m k : Nat), i ≤ k → k + m + 1 < n → r (k + m + 1) < r k
  | 0, k, a, b => h k a b
  | m + 1, k, a, b => by
    have h1 := fallN h m k a (by omega)
    have h2 := h (k + m + 1) (by omega) (by omega)
    rw [show k + (m + 1) + 1 = k + m + 1 + 1 by omega]
    omega
theorem riseN {r : Nat → Nat} {i n : Nat} (h : ∀ j, i ≤ j → j + 1 < n → r j < r (j + 1)) : ∀ (m k : Nat), i ≤ k → k + m + 1 < n → r k < r (k + m + 1)
  | 0, k, a, b => h k a b
  | m + 1, k, a, b => by
    have h1 := riseN h m k a (by omega)
    have h2 := h (k + m + 1) (by omega) (by omega)
    rw [show k + (m + 1) + 1 = k + m + 1 + 1 by omega]
    omega
/-- what comes at k in one row comes at k or later in the other, if they agree before -/
theorem later {n k : Nat} {r s : Nat → Nat} (hr : pmN n r) (hs : pmN n s) (hk : k < n) (e : ∀ j, j < k → r j = s j) : ∃ m, k ≤ m ∧ m < n ∧ r m = s k := by
  obtain ⟨m, a, b⟩ := fb_onto hr.1 hr.2 (hs.1 k hk)
  refine ⟨m, ?_, a, b⟩
  apply Classical.byContradiction
  intro h
  exact hs.2 m k (by omega) hk (by rw [← e m (by omega)]; exact b)
/-- a row that falls throughout is the last -/
theorem row_last {n : Nat} {r s : Nat → Nat} (hr : pmN n r) (hs : pmN n s) (h : ∀ j, j + 1 < n → r (j + 1) < r j) : ¬ ltR n r s := by
  rintro ⟨k, k1, k2, k3⟩
  obtain ⟨m, a, b, c⟩ := later hr hs k1 k2
  by_cases e : m = k
  · rw [e] at c; omega
  · have := fallN (r := r) (i := 0) (n := n) (fun j _ hj => h j hj) (m - k - 1) k (by omega) (by omega)
    rw [show k + (m - k - 1) + 1 = m by omega] at this
    omega
/-- the next row -/
theorem row_next {n i x : Nat} {r t : Nat → Nat} (hr : pmN n r) (ht : pmN n t) (hix : i < x) (hx : x < n) (hf : ∀ j, i + 1 ≤ j → j + 1 < n → r (j + 1) < r j) (hxi : r i < r x) (hx2 : ∀ j, x < j → j < n → r j < r i) (h1 : ∀ j, j < i → t j = r j) (h2 : t i = r x) (h3 : ∀ j, i + 1 ≤ j → j + 1 < n → t j < t (j + 1)) : ltR n r t ∧ ∀ s, pmN n s → ltR n r s → ltR n t s ∨ ∀ j, j < n → s j = t j := by
  refine ⟨⟨i, by omega, fun j hj => (h1 j hj).symm, by omega⟩, ?_⟩
  rintro s hs ⟨k, k1, k2, k3⟩
  have hki : k ≤ i := by
    apply Classical.byContradiction
    intro hn
    obtain ⟨m, a, b, c⟩ := later hr hs k1 k2
    by_cases e : m = k
    · rw [e] at c; omega
    · have := fallN hf (m - k - 1) k (by omega) (by omega)
      rw [show k + (m - k - 1) + 1 = m by omega] at this
      omega
  by_cases hk : k < i
  · exact Or.inl ⟨k, k1, fun j hj => by rw [h1 j (by omega)]; exact k2 j hj, by rw [h1 k hk]; exact k3⟩
  · have hk : k = i := by omega
    subst hk
    obtain ⟨m, a, b, c⟩ := later hr hs k1 k2
    have hmk : m ≠ k := fun e => by rw [e] at c; omega
    have hmx : m ≤ x := by
      apply Classical.byContradiction
      intro hn
      have := hx2 m (by omega) b
      omega
    have hle : t k ≤ s k := by
      rw [h2, ← c]
      by_cases e : m = x
      · rw [e]; exact Nat.le_refl _
      · have := fallN hf (x - m - 1) m (by omega) (by omega)
        rw [show m + (x - m - 1) + 1 = x by omega] at this
        omega
    by_cases hlt : t k < s k
    · exact Or.inl ⟨k, k1, fun j hj => by rw [h1 j hj]; exact k2 j hj, hlt⟩
    · have hek : t k = s k := by omega
      -- behind k the row t rises
      have key : ∀ (l y : Nat), y + l = n → k < y → (∀ j, j < y → t j = s j) → ltR n t s ∨ ∀ j, j < n → s j = t j := by
        intro l
        induction l with
        | zero => intro y hy _ he; exact Or.inr (fun j hj => (he j (by omega)).symm)
        | succ l ih =>
          intro y hy hky he
          obtain ⟨m, a, b, c⟩ := later ht hs (show y < n by omega) he
          by_cases e : m = y
          · rw [e] at c
            refine ih (y + 1) (by omega) (by omega) (fun j hj => ?_)
            by_cases q : j = y
            · rw [q]; exact c
            · exact he j (by omega)
          · have := riseN h3 (m - y - 1) y (by omega) (by omega)
            rw [show y + (m - y - 1) + 1 = m by omega] at this
            exact Or.inl ⟨y, by omega, he, by omega⟩
      refine key (n - (k + 1)) (k + 1) (by omega) (by omega) (fun j hj => ?_)
      by_cases q : j = k
      · rw [q]; exact hek
      · rw [h1 j (by omega)]; exact k2 j (by omega)
