/-! Bits, small numbers. -/
theorem sh_amt : ∀ j, j < 32 → ((nI j &&& 31).toBitVec.smod 32).toNat = j := by decide +kernel
theorem one_shl : ∀ j, j < 31 → (1 : Int32) <<< (nI j &&& 31) = nI (2 ^ j) := by decide +kernel
theorem bit_at {b j : Nat} (hb : b < 2 ^ 31) (hj : j < 31) : (nI b >>> (nI j &&& 31)) &&& 1 = nI (b / 2 ^ j % 2) := by
  rw [pk_shrN hb _ j (sh_amt j (by omega))]
  exact fa_mask _ 1
theorem bit_nz {b j : Nat} (hb : b < 2 ^ 31) (hj : j < 31) : (nI b >>> (nI j &&& 31)) &&& 1 = 0 ↔ b.testBit j = false := by
  rw [bit_at hb hj, Nat.testBit_eq_decide_div_mod_eq]
  have h2 : b / 2 ^ j % 2 < 2 := Nat.mod_lt _ (by decide)
  rw [show (0 : Int32) = nI 0 from rfl, nI_eq (by omega) (by omega)]
  simp
theorem nI_neg1 (n : Nat) (h : n < 2 ^ 31) : ¬ nI n = (-1 : Int32) := by
  intro e
  have h1 := congrArg Int32.toInt e
  rw [nI_toInt h] at h1
  have h2 : ((-1 : Int32)).toInt = -1 := by decide
  omega
theorem andn_z {b s : Nat} (hb : b < 2 ^ 31) : nI b &&& (nI s ^^^ (-1)) = 0 ↔ ∀ i, b.testBit i = true → s.testBit i = true := by
  have e : nI b &&& (nI s ^^^ (-1)) = 0 ↔ ∀ i, i < 32 → (b.testBit i && !s.testBit i) = false := by
    rw [← Int32.toBitVec_inj]
    show BitVec.ofNat 32 b &&& (BitVec.ofNat 32 s ^^^ BitVec.allOnes 32) = 0#32 ↔ _
    constructor
    · intro h i hi
      have h1 := congrArg (fun v => v.getLsbD i) h
      simp only [BitVec.getLsbD_and, BitVec.getLsbD_xor, BitVec.getLsbD_ofNat, BitVec.getLsbD_allOnes, hi, decide_true, Bool.true_and, BitVec.getLsbD_zero, Bool.xor_true, Nat.zero_testBit] at h1
      exact h1
    · intro h
      apply BitVec.eq_of_getLsbD_eq
      intro i hi
      have h1 := h i hi
      simp only [BitVec.getLsbD_and, BitVec.getLsbD_xor, BitVec.getLsbD_ofNat, BitVec.getLsbD_allOnes, hi, decide_true, Bool.true_and, BitVec.getLsbD_zero, Bool.xor_true, Nat.zero_testBit]
      exact h1
  rw [e]
  constructor
  · intro h i hi
    have hlt : i < 32 := by
      rcases Nat.lt_or_ge i 32 with q | q
      · exact q
      · exfalso
        have h2 : b < 2 ^ i := Nat.lt_of_lt_of_le hb (Nat.pow_le_pow_right (by decide) (by omega))
        rw [Nat.testBit_lt_two_pow h2] at hi
        cases hi
    have h1 := h i hlt
    rw [hi] at h1
    simpa using h1
  · intro h i _
    cases hb : b.testBit i with
    | false => rfl
    | true => rw [h i hb]; rfl
theorem and_z {b s : Nat} (hb : b < 2 ^ 31) : nI b &&& nI s = 0 ↔ ∀ i, b.testBit i = true → s.testBit i = false := by
  rw [fa_and, show (0 : Int32) = nI 0 from rfl, nI_eq (Nat.lt_of_le_of_lt Nat.and_le_left hb) (by omega)]
  constructor
  · intro h i hi
    have h1 : (b &&& s).testBit i = false := by rw [h]; simp
    rw [Nat.testBit_and, hi] at h1
    simpa using h1
  · intro h
    apply Nat.eq_of_testBit_eq
    intro i
    rw [Nat.testBit_and]
    cases hb : b.testBit i with
    | false => simp
    | true => rw [h i hb]; simp
theorem or_bit (b p : Nat) (hp : p < 31) : nI b ||| (1 <<< (nI p &&& 31)) = nI (b ||| 2 ^ p) := by
  rw [one_shl p hp, fa_or]
theorem or_lt {b p n : Nat} (hb : b < 2 ^ n) (hp : p < n) : b ||| 2 ^ p < 2 ^ n := Nat.or_lt_two_pow hb (Nat.pow_lt_pow_right (by decide) hp)
theorem or_testBit (b p i : Nat) : (b ||| 2 ^ p).testBit i = (b.testBit i || decide (i = p)) := by
  rw [Nat.testBit_or, Nat.testBit_two_pow]
  congr 1
  simp [eq_comm]
/-- the number of bits below n -/
def pc (b : Nat) : Nat → Nat
  | 0 => 0
  | n + 1 => pc b n + (if b.testBit n then 1 else 0)
def dst (a b : Nat) : Nat := if a < b then b - a else a - b
def mv (ax ay bx by_ : Nat) : Nat := if dst ax bx < dst ay by_ then dst ay by_ else dst ax bx
theorem abs_dst {a b : Nat} (ha : a < 2 ^ 30) (hb : b < 2 ^ 30) : (if 0 ≤ nI b - nI a then nI b - nI a else 0 - (nI b - nI a)) = nI (dst a b) := by
  unfold dst
  by_cases h : a < b
  · rw [if_pos h, if_pos (by rw [pk_sub (by omega)]; exact nI_pos' (by omega)), pk_sub (by omega)]
  · rw [if_neg h]
    rcases Nat.lt_or_ge b a with h1 | h1
    · have hneg : nI b - nI a < 0 := pk_sneg ha h1
      rw [if_neg (by
        rw [fa_le]
        rw [fa_lt] at hneg
        omega)]
      rw [Int32.zero_sub, Int32.neg_sub, pk_sub (by omega)]
    · have e : a = b := by omega
      subst e
      rw [pk_sub (Nat.le_refl _), Nat.sub_self]
      decide
theorem far_dst {a b : Nat} (ha : a < 2 ^ 30) (hb : b < 2 ^ 30) : (if nI a < nI b then nI b - nI a else nI a - nI b) = nI (dst a b) := by
  rw [fa_absdiff (by omega) (by omega)]
  rfl
theorem dst_le {a b n : Nat} (ha : a ≤ n) (hb : b ≤ n) : dst a b ≤ n := by
  unfold dst
  split <;> omega
theorem mv_le {a b c d n : Nat} (ha : a ≤ n) (hb : b ≤ n) (hc : c ≤ n) (hd : d ≤ n) : mv a b c d ≤ n := by
  unfold mv
  have h1 := dst_le ha hc
  have h2 := dst_le hb hd
  split <;> assumption
theorem mset_ne (M : Mem) {k k' : Nat} (j : Nat) (x : Int32) (h : k' ≠ k) : mset M k j x k' = M k' := by simp [mset, h]
theorem mset_eq (M : Mem) (k j : Nat) (x : Int32) : mset M k j x k = upd (M k) j x := by simp [mset]
theorem z01_0 : Z01 0 := Or.inl rfl
theorem z01_1 : Z01 1 := Or.inr rfl
theorem nz16 : NZ 16 := by unfold NZ; decide
def b2 (b : Bool) : Int32 := if b then 1 else 0
theorem b2_01 (b : Bool) : Z01 (b2 b) := by cases b <;> simp [b2, Z01]
theorem b2_z {b : Bool} : b2 b = 0 ↔ b = false := by cases b <;> simp [b2]
theorem b2_nz {b : Bool} : ¬ b2 b = 0 ↔ b = true := by cases b <;> simp [b2]
