/-! The first memory. -/
def uN32 (x : Int32) : Nat := x.toBitVec.toNat
theorem nI_uN (x : Int32) : nI (uN32 x) = x := by
  apply Int32.toBitVec_inj.mp
  apply BitVec.eq_of_toNat_eq
  exact pk_tn x.toBitVec.isLt
/-- the memory behind the two constructors -/
def M00 (xs f1 f2 f3 g1 g2 g3 : Nat → Int32) : Mem := fun k => match k with
  | 2 => f1
  | 3 => f2
  | 12 => f3
  | 14 => fun j => match j with
    | 0 => 2
    | 1 => 2
    | 2 => 3
    | 3 => 4
    | 4 => 10
    | _ => 0
  | 26 => fun j => match j with
    | 6 => 1
    | 13 => -1
    | _ => 0
  | 31 => fun j => match j with
    | 11 => 2
    | 12 => 2
    | 13 => 3
    | 14 => 4
    | 15 => 10
    | 19 => 1
    | 36 => -1
    | _ => 0
  | 32 => g1
  | 33 => g2
  | 40 => g3
  | 1000 => xs
  | _ => fun _ => 0
def g00 (g1 g2 g3 : Nat → Int32) : GS := fun k => match k with
  | 31 => fun j => match j with
    | 11 => 2
    | 12 => 2
    | 13 => 3
    | 14 => 4
    | 15 => 10
    | 19 => 1
    | _ => 0
  | 32 => fun j => uN32 (g1 j)
  | 33 => fun j => uN32 (g2 j)
  | 40 => fun j => uN32 (g3 j + 1)
  | _ => fun _ => 0
theorem RX_first {xs f1 f2 f3 g1 g2 g3 : Nat → Int32} (hf1 : ∀ j, j < 8 → f1 j = 1) (hf2 : ∀ j, j < 8 → f2 j = 1) (hf3 : ∀ j, j < 8 → f3 j = -1) (hg1 : ∀ j, j < 8 → g1 j = 1) (hg2 : ∀ j, j < 8 → g2 j = 1) (hg3 : ∀ j, j < 8 → g3 j = -1) : RX (M00 xs f1 f2 f3 g1 g2 g3) := by
  have e32 : ∀ k, k < 8 → (g00 g1 g2 g3) 32 k = 1 := fun k hk => by
    show uN32 (g1 k) = 1
    rw [hg1 k hk]; rfl
  have e33 : ∀ k, k < 8 → (g00 g1 g2 g3) 33 k = 1 := fun k hk => by
    show uN32 (g2 k) = 1
    rw [hg2 k hk]; rfl
  have e40 : ∀ k, k < 8 → (g00 g1 g2 g3) 40 k = 0 := fun k hk => by
    show uN32 (g3 k + 1) = 0
    rw [hg3 k hk]; rfl
  have hp : pls (g00 g1 g2 g3) = 0 := rfl
  have hn : pln (g00 g1 g2 g3) = 0 := rfl
  refine RX.mk0 (g := g00 g1 g2 g3) (ov := 0) (i := 0) (t := 0) (st := fun _ => 0) ⟨⟨by rw [hp]; omega, by rw [hn]; omega, fun p _ => ⟨by show 0 ≤ 199; omega, by show 0 ≤ 199; omega, by show 0 < 8; omega⟩, fun k hk => ⟨by rw [e32 k hk]; omega, by rw [e33 k hk]; omega, by show 0 ≤ 2; omega, by show 0 ≤ 1; omega⟩, fun j => by show 0 ≤ 1; omega, fun s hs => ⟨by rw [e40 s hs]; omega, by show 0 ≤ 100; omega⟩, ⟨by show 1 ≤ 2; omega, by show 2 ≤ 4; omega⟩, ⟨by show 2 ≤ 20; omega, by show 3 ≤ 20; omega, by show 4 ≤ 20; omega, by show 10 ≤ 50; omega⟩, fun i hi => by rw [hn] at hi; omega⟩, ⟨fun i j _ h => by rw [hn] at h; omega, fun h => by rw [hn] at h; omega, fun p => rfl⟩, ?_, ?_⟩ ⟨by show 1 ≤ 3; omega, fun n => by show 0 ≤ 1; omega⟩ (fun p => by show 0 ≤ 2; omega) (fun p _ => rfl) (fun p => rfl) (by omega) ?_ ⟨fun n => rfl, rfl⟩ rfl rfl rfl rfl (Or.inl rfl) ?_ ⟨fun n _ => rfl, rfl⟩ rfl
  · intro p q _ _ h
    have : (0 : Nat) = 1 := h
    omega
  · rintro ⟨S, ⟨x, hx, -⟩, -⟩
    rw [hp] at hx
    omega
  · refine ⟨fun k a b c j => ?_, fun j => ?_, rfl, fun j a b => ?_⟩
    · rcases (show k = 32 ∨ k = 33 ∨ k = 34 ∨ k = 35 ∨ k = 36 ∨ k = 37 ∨ k = 38 ∨ k = 39 ∨ k = 41 ∨ k = 42 by omega) with h | h | h | h | h | h | h | h | h | h <;> subst h
      · exact (nI_uN (g1 j)).symm
      · exact (nI_uN (g2 j)).symm
      all_goals rfl
    · show g3 j = nI (uN32 (g3 j + 1)) - 1
      rw [nI_uN]
      exact (Int32.add_sub_cancel _ _).symm
    · rcases (show j = 11 ∨ j = 12 ∨ j = 13 ∨ j = 14 ∨ j = 15 ∨ j = 16 by omega) with h | h | h | h | h | h <;> subst h <;> rfl
  · refine ⟨fun k hk => ⟨?_, ?_, rfl, rfl⟩, ⟨rfl, fun p h => by rw [hp] at h; omega, fun p _ => rfl⟩, fun s hs => ⟨?_, rfl⟩, ⟨rfl, rfl, rfl, rfl, rfl⟩, ⟨rfl, ?_, fun i hi => by rw [hn] at hi; omega⟩⟩
    · show f1 k = _
      rw [e32 k hk, hf1 k hk]; rfl
    · show f2 k = _
      rw [e33 k hk, hf2 k hk]; rfl
    · show f3 s = _
      rw [e40 s hs, hf3 s hs]; rfl
    · show (0 : Int32) = _
      rw [bitsOf_none (fun i _ => inP_0 hn i)]
      rfl
