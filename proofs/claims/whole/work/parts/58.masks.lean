/-! Plans as rows and masks. -/
def mkN (n : Nat) (c : Nat → Nat) : Nat := bitsOf (fun j => decide (16 ≤ c (j + 1))) (n - 1)
def roN (c : Nat → Nat) : Nat → Nat := fun j => c j % 16
theorem vC_row {g : GS} {c : Nat → Nat} (h : vC g c) : pmN (pls g) (roN c) ∧ mkN (pls g) c < 2 ^ (pls g - 1) ∧ eqN (pls g) c (cdM (roN c) (mkN (pls g) c)) := by
  refine ⟨⟨fun j hj => (h.1 j hj).2, h.2.1⟩, bitsOf_lt _ _, fun j hj => ?_⟩
  have h32 := (h.1 j hj).1
  unfold cdM roN mkN
  rw [bitsOf_bit]
  by_cases j0 : j = 0
  · subst j0
    have := h.2.2
    rw [if_pos (Or.inl rfl)]
    omega
  · have e1 : decide (j - 1 < pls g - 1) = true := by simp; omega
    rw [e1, Bool.true_and, show j - 1 + 1 = j by omega]
    by_cases q : 16 ≤ c j
    · rw [if_pos (Or.inr (by simpa using q))]
      omega
    · rw [if_neg (by simp; omega)]
      omega
theorem vC_of {g : GS} {r c : Nat → Nat} {w : Nat} (hp : pls g ≤ 10) (h1 : 1 ≤ pls g) (hr : pmN (pls g) r) (e : eqN (pls g) c (cdM r w)) : vC g c := by
  have m : ∀ j, j < pls g → c j % 16 = r j ∧ c j < 32 := fun j hj => by
    have hj2 := hr.1 j hj
    have := cdM_mod (r := r) (w := w) (j := j) (by omega)
    rw [e j hj]
    exact ⟨this.1, this.2.1⟩
  refine ⟨fun j hj => ⟨(m j hj).2, by rw [(m j hj).1]; exact hr.1 j hj⟩, fun i j hij hj => by rw [(m i (by omega)).1, (m j hj).1]; exact hr.2 i j hij hj, ?_⟩
  rw [e 0 (by omega)]
  unfold cdM
  rw [if_pos (Or.inl rfl)]
  omega
theorem mk_of {n : Nat} {r c : Nat → Nat} {w : Nat} (hr : ∀ j, j < n → r j < 16) (hw : w < 2 ^ (n - 1)) (e : eqN n c (cdM r w)) : mkN n c = w ∧ ∀ j, j < n → roN c j = r j := by
  refine ⟨?_, fun j hj => ?_⟩
  · unfold mkN
    apply bits_ext
    intro i
    rw [bitsOf_bit]
    by_cases hi : i < n - 1
    · have e1 : decide (i < n - 1) = true := by simp [hi]
      have := (cdM_mod (r := r) (w := w) (j := i + 1) (hr (i + 1) (by omega))).2.2
      rw [e1, Bool.true_and, e (i + 1) (by omega), Bool.eq_iff_iff, decide_eq_true_eq, this]
      constructor
      · rintro (q | q)
        · omega
        · exact q
      · exact fun q => Or.inr q
    · have e1 : decide (i < n - 1) = false := by simp; omega
      rw [e1, Bool.false_and]
      refine (Nat.testBit_lt_two_pow (Nat.lt_of_lt_of_le hw (Nat.pow_le_pow_right (by omega) (by omega)))).symm
  · unfold roN
    rw [e j hj]
    exact (cdM_mod (hr j hj)).1
/-- one mask more -/
theorem mk_step {g : GS} {r c : Nat → Nat} {w : Nat} (hp : pls g ≤ 10) (hr : pmN (pls g) r) (hw : w < 2 ^ (pls g - 1)) (hc : vC g c) : (eqN (pls g) (roN c) r ∧ mkN (pls g) c < w + 1) ↔ (eqN (pls g) (roN c) r ∧ mkN (pls g) c < w) ∨ eqN (pls g) c (cdM r w) := by
  constructor
  · rintro ⟨h1, h2⟩
    by_cases q : mkN (pls g) c < w
    · exact Or.inl ⟨h1, q⟩
    · right
      intro j hj
      have := (vC_row hc).2.2 j hj
      rw [this, show mkN (pls g) c = w by omega]
      unfold cdM
      rw [h1 j hj]
  · rintro (⟨h1, h2⟩ | h)
    · exact ⟨h1, by omega⟩
    · obtain ⟨a, b⟩ := mk_of (fun j hj => by have := hr.1 j hj; omega) hw h
      exact ⟨b, by omega⟩
