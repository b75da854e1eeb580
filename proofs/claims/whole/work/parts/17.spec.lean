/-! The abstract state, in the reference's cell numbers, and the words of the document over it. -/
abbrev GS : Type := Nat → Nat → Nat
/-- the first place from i on, among n, where P holds; else i + n -/
def fst (P : Nat → Bool) : Nat → Nat → Nat
  | 0, i => i
  | n + 1, i => if P i then i else fst P n (i + 1)
theorem fst_le (P : Nat → Bool) : ∀ n i, i ≤ fst P n i ∧ fst P n i ≤ i + n
  | 0, i => ⟨Nat.le_refl _, Nat.le_refl _⟩
  | n + 1, i => by
    unfold fst
    split
    · omega
    · have := fst_le P n (i + 1)
      omega
theorem fst_no (P : Nat → Bool) : ∀ n i j, i ≤ j → j < fst P n i → P j = false
  | 0, i, j, h1, h2 => by unfold fst at h2; omega
  | n + 1, i, j, h1, h2 => by
    unfold fst at h2
    split at h2
    · omega
    · next hp =>
      rcases Nat.lt_or_ge i j with q | q
      · exact fst_no P n (i + 1) j q h2
      · have : j = i := by omega
        subst this
        simpa using hp
theorem fst_yes (P : Nat → Bool) : ∀ n i, fst P n i < i + n → P (fst P n i) = true
  | 0, i, h => by unfold fst at h; omega
  | n + 1, i, h => by
    unfold fst at h ⊢
    split
    · next hp => exact hp
    · next hp =>
      rw [if_neg hp] at h
      exact fst_yes P n (i + 1) (by omega)
/-- how many from i on, among n -/
def cnt (P : Nat → Bool) : Nat → Nat → Nat
  | 0, _ => 0
  | n + 1, i => (if P i then 1 else 0) + cnt P n (i + 1)
theorem cnt_le (P : Nat → Bool) : ∀ n i, cnt P n i ≤ n
  | 0, i => Nat.le_refl _
  | n + 1, i => by
    unfold cnt
    have := cnt_le P n (i + 1)
    split <;> omega
theorem cnt_last (P : Nat → Bool) : ∀ n i, cnt P (n + 1) i = cnt P n i + (if P (i + n) then 1 else 0)
  | 0, i => by simp [cnt]
  | n + 1, i => by
    rw [cnt, cnt_last P n (i + 1), cnt]
    rw [show i + 1 + n = i + (n + 1) by omega]
    omega
theorem cnt_cong {P R : Nat → Bool} : ∀ n i, (∀ j, i ≤ j → j < i + n → P j = R j) → cnt P n i = cnt R n i
  | 0, i, _ => rfl
  | n + 1, i, h => by
    rw [cnt, cnt, h i (by omega) (by omega), cnt_cong n (i + 1) (fun j h1 h2 => h j (by omega) (by omega))]
theorem cnt_pos {P : Nat → Bool} : ∀ {n i}, 0 < cnt P n i ↔ ∃ j, i ≤ j ∧ j < i + n ∧ P j = true
  | 0, i => by simp [cnt]; omega
  | n + 1, i => by
    rw [cnt]
    constructor
    · intro h
      by_cases hp : P i = true
      · exact ⟨i, by omega, by omega, hp⟩
      · simp [hp] at h
        obtain ⟨j, h1, h2, h3⟩ := cnt_pos.mp h
        exact ⟨j, by omega, by omega, h3⟩
    · rintro ⟨j, h1, h2, h3⟩
      by_cases hij : i = j
      · subst hij
        simp [h3]
        omega
      · have := cnt_pos (P := P) (n := n) (i := i + 1) |>.mpr ⟨j, by omega, by omega, h3⟩
        omega
/-- a set of places as bits -/
def bitsOf (f : Nat → Bool) : Nat → Nat
  | 0 => 0
  | n + 1 => bitsOf f n + (if f n then 2 ^ n else 0)
theorem bitsOf_lt (f : Nat → Bool) : ∀ n, bitsOf f n < 2 ^ n
  | 0 => Nat.one_pos
  | n + 1 => by
    unfold bitsOf
    have := bitsOf_lt f n
    rw [Nat.pow_succ]
    split <;> omega
theorem bitsOf_bit (f : Nat → Bool) : ∀ n i, (bitsOf f n).testBit i = (decide (i < n) && f i)
  | 0, i => by simp [bitsOf]
  | n + 1, i => by
    unfold bitsOf
    have hl := bitsOf_lt f n
    have ih := bitsOf_bit f n i
    cases hf : f n with
    | false =>
      simp only [Bool.false_eq_true, if_false, Nat.add_zero]
      rw [ih]
      by_cases e : i = n
      · subst e
        simp [hf]
      · congr 1
        simp
        omega
    | true =>
      simp only [if_true]
      rw [show bitsOf f n + 2 ^ n = 2 ^ n * 1 + bitsOf f n by omega, Nat.testBit_two_pow_mul_add _ hl]
      by_cases h1 : i < n
      · rw [if_pos h1, ih]
        simp [h1]
        omega
      · rw [if_neg h1]
        by_cases e : i = n
        · subst e
          simp [hf]
        · have h2 : ¬ i < n + 1 := by omega
          have h3 : i - n ≠ 0 := by omega
          simp [h2]
          rw [show (1 : Nat) = 2 ^ 0 from rfl, Nat.testBit_two_pow]
          simp
          omega
theorem bits_ext {a b : Nat} (h : ∀ i, a.testBit i = b.testBit i) : a = b := Nat.eq_of_testBit_eq h
theorem bitsOf_cong {f g : Nat → Bool} {n m : Nat} (h : ∀ i, (decide (i < n) && f i) = (decide (i < m) && g i)) : bitsOf f n = bitsOf g m := by
  apply bits_ext
  intro i
  rw [bitsOf_bit, bitsOf_bit, h i]
abbrev pls (g : GS) : Nat := g 31 4
abbrev nzs (g : GS) : Nat := g 31 11
abbrev pln (g : GS) : Nat := g 31 16
def plc (g : GS) (i : Nat) : Nat := g 42 i % 16
def bgn (g : GS) (i : Nat) : Bool := decide (16 ≤ g 42 i)
def kdA (g : GS) (i : Nat) : Nat := g 38 (plc g i)
def nzA (g : GS) (i : Nat) : Nat := g 34 (kdA g i)
def slO (g : GS) (k : Nat) : Nat := fst (fun s => g 40 s == k + 1) 8 0
def enT (g : GS) (i : Nat) : Nat := fst (fun j => bgn g j) (pln g - (i + 1)) (i + 1)
/-- p is AHEAD of q -/
def ahB (g : GS) (p q : Nat) : Bool := (g 39 (10 * q + p) == 1) || (decide (dst (g 36 p) (g 36 q) < g 32 (g 38 p) + g 32 (g 38 q) + 3) && (decide (dst (g 37 p) (g 37 q) < g 32 (g 38 p) + g 32 (g 38 q) + 3) && decide (g 33 (g 38 p) < g 33 (g 38 q))))
def ltB (g : GS) (p q : Nat) : Bool := g 39 (10 * p + q) == 1
/-- NONE or a slot -/
def e8 (n : Nat) : Int32 := if n < 8 then nI n else -1
theorem e8_none {n : Nat} (h : n ≤ 8) : e8 n = -1 ↔ n = 8 := by
  unfold e8
  by_cases q : n < 8
  · rw [if_pos q]
    exact ⟨fun z => absurd z (nI_neg1 n (by omega)), fun z => by omega⟩
  · rw [if_neg q]
    exact ⟨fun _ => by omega, fun _ => rfl⟩
theorem nI_sub1 (n : Nat) : nI (n + 1) - 1 = nI n := nI_pred n
theorem shift_eq {n k : Nat} (hn : n < 2 ^ 30) (hk : k < 2 ^ 30) : nI n - 1 = nI k ↔ n = k + 1 := by
  constructor
  · intro h
    have h1 : nI n = nI k + 1 := by rw [← h]; exact (Int32.sub_add_cancel _ _).symm
    rw [nI_1, nI_eq (by omega) (by omega)] at h1
    exact h1
  · rintro rfl
    exact nI_pred k
