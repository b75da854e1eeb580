/-! Good plans and ticks: the words. -/
def alB (P : Nat → Bool) : Nat → Nat → Bool
  | 0, _ => true
  | n + 1, i => P i && alB P n (i + 1)
theorem alB_iff {P : Nat → Bool} : ∀ {n i}, alB P n i = true ↔ ∀ j, i ≤ j → j < i + n → P j = true
  | 0, i => by simp [alB]; omega
  | n + 1, i => by
    rw [alB, Bool.and_eq_true, alB_iff]
    constructor
    · rintro ⟨h1, h2⟩ j hj hj2
      by_cases e : j = i
      · subst e; exact h1
      · exact h2 j (by omega) (by omega)
    · intro h
      exact ⟨h i (by omega) (by omega), fun j h1 h2 => h j (by omega) (by omega)⟩
/-- bounds of all numbers that are kept -/
def Wk (g : GS) : Prop :=
  pls g ≤ 10 ∧ pln g ≤ 10 ∧ (∀ p, p < 10 → g 36 p ≤ 199 ∧ g 37 p ≤ 199 ∧ g 38 p < 8) ∧ (∀ k, k < 8 → g 32 k ≤ 20 ∧ g 33 k ≤ 9 ∧ g 34 k ≤ 2 ∧ g 35 k ≤ 1) ∧ (∀ j, g 39 j ≤ 1) ∧ (∀ s, s < 8 → g 40 s ≤ 8 ∧ g 41 s ≤ 100) ∧ (1 ≤ g 31 11 ∧ g 31 11 ≤ 4) ∧ (g 31 12 ≤ 20 ∧ g 31 13 ≤ 20 ∧ g 31 14 ≤ 20 ∧ g 31 15 ≤ 50) ∧ (∀ i, i < pln g → g 42 i < 32 ∧ plc g i < pls g)
/-- the reference's cells hold g -/
def RC (g : GS) (M : Mem) : Prop :=
  (∀ k, 32 ≤ k → k ≤ 42 → k ≠ 40 → ∀ j, M k j = nI (g k j)) ∧ (∀ j, M 40 j = nI (g 40 j) - 1) ∧ M 31 4 = nI (g 31 4) ∧ (∀ j, 11 ≤ j → j ≤ 16 → M 31 j = nI (g 31 j))
/-- where the head is: x, y, nozzle, ticks -/
abbrev Hd : Type := Nat × Nat × Nat × Nat
def hGo (h : Hd) (x y : Nat) : Hd := (x, y, h.2.2.1, h.2.2.2 + mv h.1 h.2.1 x y)
def hAdd (h : Hd) (n : Nat) : Hd := (h.1, h.2.1, h.2.2.1, h.2.2.2 + n)
def hBear (h : Hd) (n c : Nat) : Hd := if h.2.2.1 = n then h else (h.1, h.2.1, n, h.2.2.2 + c)
def hB (h : Hd) : Prop := h.1 ≤ 199 ∧ h.2.1 ≤ 199 ∧ h.2.2.1 ≤ 2
theorem hB_go {h : Hd} {x y : Nat} (hh : hB h) (hx : x ≤ 199) (hy : y ≤ 199) : hB (hGo h x y) := ⟨hx, hy, hh.2.2⟩
theorem hB_add {h : Hd} {n : Nat} (hh : hB h) : hB (hAdd h n) := hh
theorem hB_bear {h : Hd} {n c : Nat} (hh : hB h) (hn : n ≤ 2) : hB (hBear h n c) := by
  unfold hBear
  split
  · exact hh
  · exact ⟨hh.1, hh.2.1, hn⟩
def slC (g : GS) (i e s : Nat) : Nat := cnt (fun j => slO g (kdA g j) == s) (e - i) i
def slS (g : GS) (i e s : Nat) (h : Hd) : Hd := if 0 < slC g i e s then hAdd (hGo h (20 * s) 0) (slC g i e s * g 31 12) else h
def slF (g : GS) (i e : Nat) : Nat → Nat → Hd → Hd
  | 0, _, h => h
  | n + 1, s, h => slF g i e n (s + 1) (slS g i e s h)
def fnC (g : GS) (i e : Nat) : Nat := cnt (fun j => g 35 (kdA g j) == 1) (e - i) i
def lkF (g : GS) (i e : Nat) (h : Hd) : Hd := if 0 < fnC g i e then hAdd (hGo h 199 0) (fnC g i e * g 31 14) else h
def plS (g : GS) (j : Nat) (h : Hd) : Hd := hAdd (hGo h (g 36 (plc g j)) (g 37 (plc g j))) (g 31 13)
def plF (g : GS) : Nat → Nat → Hd → Hd
  | 0, _, h => h
  | n + 1, j, h => plF g n (j + 1) (plS g j h)
def trF (g : GS) (i e : Nat) (h : Hd) : Hd := plF g (e - i) i (lkF g i e (slF g i e 8 0 (hBear h (nzA g i) (g 31 15))))
def tkF (g : GS) : Nat → Nat → Hd → Hd
  | 0, _, h => h
  | n + 1, i, h => if i < pln g then tkF g n (enT g i) (trF g i (enT g i) h) else h
def tkN (g : GS) : Nat := (tkF g (pln g) 0 (0, 0, 0, 0)).2.2.2
/-- is the plan good: from index i on, n left, c in the tour so far -/
def gdS (g : GS) (i c : Nat) : Bool := decide (c ≤ nzs g) && ((decide (c ≤ 1) || nzA g i == nzA g (i - 1)) && (decide (slO g (kdA g i) < 8) && alB (fun j => !ahB g (plc g j) (plc g i)) (pln g - (i + 1)) (i + 1)))
def gdF (g : GS) : Nat → Nat → Nat → Bool
  | 0, _, _ => true
  | n + 1, i, c => gdS g i (if bgn g i then 1 else c + 1) && gdF g n (i + 1) (if bgn g i then 1 else c + 1)
def gdB (g : GS) : Bool := decide (pln g = pls g) && gdF g (pln g) 0 0
theorem slO_le (g : GS) (k : Nat) : slO g k ≤ 8 := (fst_le _ 8 0).2
theorem enT_le (g : GS) {i : Nat} (h : i < pln g) : i < enT g i ∧ enT g i ≤ pln g := by
  have := fst_le (fun j => bgn g j) (pln g - (i + 1)) (i + 1)
  unfold enT
  omega
section MG
variable {E : Env0} {d : Nat} {M : Mem} {Q : Int32 → Mem → Prop} {g : GS}
theorem Wk.kd (hW : Wk g) {i : Nat} (hi : i < pln g) : kdA g i < 8 := (hW.2.2.1 _ (Nat.lt_of_lt_of_le (hW.2.2.2.2.2.2.2.2 i hi).2 hW.1)).2.2
theorem c_M_slotOf {k : Nat} (hR : RC g M) (hW : Wk g) (hk : k < 8) (h : Q (e8 (slO g k)) M) : CE E d n_M_slotOf [.inr 31, .inl (nI k)] M Q := by
  refine CE_of rfl (b_M_slotOf_0 _ ?_)
  have key : ∀ (n s : Nat), s + n = 8 → Q (e8 (fst (fun s => g 40 s == k + 1) n s)) M → JE E d n_M_slotOf 2 [some (.inr 31), some (.inl (nI k)), some (.inl (nI s))] [] M Q := by
    intro n
    induction n with
    | zero =>
      intro s hs hq
      refine b_M_slotOf_2 _ _ ⟨fun _ => ?_, fun c1 => absurd (nI_le (show 8 ≤ s by omega) (by omega)) c1⟩
      have e : fst (fun s => g 40 s == k + 1) 0 s = 8 := by unfold fst; omega
      rw [e] at hq
      exact hq
    | succ n ih =>
      intro s hs hq
      have h1 : g 40 s < 2 ^ 30 := by have := (hW.2.2.2.2.2.1 s (by omega)).1; omega
      refine b_M_slotOf_2 _ _ ⟨fun c1 => absurd c1 (nI_ge (b := 8) (show s < 8 by omega) (by omega)), fun _ => ⟨vp_in_nI (by omega) (by omega), fun c2 => ?_, fun c2 => ?_⟩⟩
      · rw [nI_clamp (by omega), hR.2.1, shift_eq h1 (by omega)] at c2
        rw [nI_1]
        refine ih (s + 1) (by omega) ?_
        rw [fst, if_neg (by simpa using c2)] at hq
        exact hq
      · rw [nI_clamp (by omega), hR.2.1, shift_eq h1 (by omega)] at c2
        rw [fst, if_pos (by simpa using c2)] at hq
        rw [e8, if_pos (by omega)] at hq
        exact hq
  exact key 8 0 rfl h
theorem rem16 {c : Nat} (h : c < 2 ^ 31) : nI c - nI c / 16 * 16 = nI (c % 16) := pk_rem (a := c) (d := 16) h (by omega) (by omega)
theorem RC.at (hR : RC g M) (k : Nat) (h1 : 32 ≤ k) (h2 : k ≤ 42) (h3 : k ≠ 40) (j : Nat) : M k j = nI (g k j) := hR.1 k h1 h2 h3 j
theorem c_M_kindAt {i : Nat} (hR : RC g M) (hW : Wk g) (hi : i < pln g) (h : Q (nI (kdA g i)) M) : CE E d n_M_kindAt [.inr 31, .inl (nI i)] M Q := by
  obtain ⟨h1, h2⟩ := hW.2.2.2.2.2.2.2.2 i hi
  have hp := hW.1
  have hn := hW.2.1
  refine CE_of rfl (b_M_kindAt_0 _ ?_)
  rw [nI_clamp (by omega), hR.at 42 (by omega) (by omega) (by omega), rem16 (by omega), show g 42 i % 16 = plc g i from rfl, nI_clamp (by omega), hR.at 38 (by omega) (by omega) (by omega)]
  exact ⟨vp_in_nI (by omega) (by omega), nz16, vp_in_nI (by omega) (by omega), h⟩
theorem c_M_begins1 {i : Nat} (hR : RC g M) (hW : Wk g) (hi : i ≤ pln g) (h : Q (b2 (decide (pln g ≤ i) || bgn g i)) M) : CE E d n_M_begins1 [.inr 31, .inl (nI i)] M Q := by
  have hn := hW.2.1
  have h16 : M 31 16 = nI (pln g) := hR.2.2.2 16 (by omega) (by omega)
  refine CE_of rfl (b_M_begins1_0 _ ⟨fun c1 => ⟨z01_1, ?_⟩, fun c1 => ⟨vp_in_nI ?_ (by omega), fun c2 => ⟨z01_0, ?_⟩, fun c2 => ⟨z01_1, ?_⟩⟩⟩)
  · rw [h16, nI_leI (by omega) (by omega)] at c1
    simpa [b2, c1] using h
  · rw [h16, nI_leI (by omega) (by omega)] at c1
    omega
  · rw [h16, nI_leI (by omega) (by omega)] at c1
    have h1 := (hW.2.2.2.2.2.2.2.2 i (by omega)).1
    rw [nI_clamp (by omega), hR.at 42 (by omega) (by omega) (by omega), show (16 : Int32) = nI 16 from rfl, nI_ltI (by omega) (by omega)] at c2
    have h2 : bgn g i = false := by unfold bgn; simp; omega
    simpa [b2, c1, h2] using h
  · rw [h16, nI_leI (by omega) (by omega)] at c1
    have h1 := (hW.2.2.2.2.2.2.2.2 i (by omega)).1
    rw [nI_clamp (by omega), hR.at 42 (by omega) (by omega) (by omega), show (16 : Int32) = nI 16 from rfl, nI_ltI (by omega) (by omega)] at c2
    have h2 : bgn g i = true := by unfold bgn; simp; omega
    simpa [b2, h2] using h
def wiB (g : GS) (p q m : Nat) : Bool := decide (dst (g 36 p) (g 36 q) < g 32 (g 38 p) + g 32 (g 38 q) + m) && decide (dst (g 37 p) (g 37 q) < g 32 (g 38 p) + g 32 (g 38 q) + m)
theorem c_M_areWithin {p q m : Nat} (hR : RC g M) (hW : Wk g) (hp : p < 10) (hq : q < 10) (hm : m ≤ 3) (h : Q (b2 (wiB g p q m)) M) : CE E (d + 1) n_M_areWithin [.inr 31, .inl (nI p), .inl (nI q), .inl (nI m)] M Q := by
  obtain ⟨a1, a2, a3⟩ := hW.2.2.1 p hp
  obtain ⟨b1, b2', b3⟩ := hW.2.2.1 q hq
  have k1 := (hW.2.2.2.1 _ a3).1
  have k2 := (hW.2.2.2.1 _ b3).1
  have d1 := dst_le a1 b1
  have d2 := dst_le a2 b2'
  have m36 := hR.at 36 (by omega) (by omega) (by omega)
  have m37 := hR.at 37 (by omega) (by omega) (by omega)
  have m38 := hR.at 38 (by omega) (by omega) (by omega)
  have m32 := hR.at 32 (by omega) (by omega) (by omega)
  refine CE_of rfl (b_M_areWithin_0 _ _ _ ?_)
  simp (disch := omega) only [nI_clamp, m38, m36, m32, nI_add]
  refine ⟨vp_in_nI hp (by omega), vp_in_nI a3 (by omega), vp_in_nI hq (by omega), vp_in_nI b3 (by omega), vp_in_nI hp (by omega), vp_in_nI hq (by omega), c_M_far (by omega) (by omega) ⟨fun c1 => ⟨z01_0, ?_⟩, fun c1 => ⟨vp_in_nI hp (by omega), vp_in_nI hq (by omega), ?_⟩⟩⟩
  · rw [nI_leI (by omega) (by omega)] at c1
    have e : wiB g p q m = false := by unfold wiB; simp; omega
    simpa [b2, e] using h
  simp (disch := omega) only [nI_clamp, m37]
  refine c_M_far (by omega) (by omega) ⟨fun c2 => ⟨z01_0, ?_⟩, fun c2 => ⟨z01_1, ?_⟩⟩
  · rw [nI_leI (by omega) (by omega)] at c1 c2
    have e : wiB g p q m = false := by unfold wiB; simp; omega
    simpa [b2, e] using h
  · rw [nI_leI (by omega) (by omega)] at c1 c2
    have e : wiB g p q m = true := by unfold wiB; simp; omega
    simpa [b2, e] using h
theorem c_M_isAhead {p q : Nat} (hR : RC g M) (hW : Wk g) (hp : p < 10) (hq : q < 10) (h : Q (b2 (ahB g p q)) M) : CE E (d + 2) n_M_isAhead [.inr 31, .inl (nI p), .inl (nI q)] M Q := by
  obtain ⟨a1, a2, a3⟩ := hW.2.2.1 p hp
  obtain ⟨b1, b2', b3⟩ := hW.2.2.1 q hq
  have k1 := (hW.2.2.2.1 _ a3).2.1
  have k2 := (hW.2.2.2.1 _ b3).2.1
  have l1 := hW.2.2.2.2.1 (10 * q + p)
  refine CE_of rfl (b_M_isAhead_0 _ _ ?_)
  have e10 : (10 : Int32) * nI q + nI p = nI (10 * q + p) := by
    rw [show (10 : Int32) = nI 10 from rfl, pk_mul, nI_add]
  rw [e10]
  simp only [nI_clamp (show 10 * q + p < 2 ^ 31 by omega), hR.at 39 (by omega) (by omega) (by omega)]
  refine ⟨vp_in_nI (by omega) (by omega), fun c1 => ⟨z01_1, ?_⟩, fun c1 => c_M_areWithin (m := 3) hR hW hp hq (by omega) ⟨fun c2 => ⟨z01_0, ?_⟩, fun c2 => ?_⟩⟩
  · rw [show (0 : Int32) = nI 0 from rfl, nI_eq (by omega) (by omega)] at c1
    have e : ahB g p q = true := by
      unfold ahB
      have : g 39 (10 * q + p) = 1 := by omega
      simp [this]
    simpa [b2, e] using h
  · rw [show (0 : Int32) = nI 0 from rfl, nI_eq (by omega) (by omega)] at c1
    rw [b2_z] at c2
    have e : ahB g p q = false := by
      unfold ahB
      unfold wiB at c2
      rw [c1]
      simp only [Bool.and_eq_false_iff, decide_eq_false_iff_not] at c2
      simp
      omega
    simpa [b2, e] using h
  · rw [show (0 : Int32) = nI 0 from rfl, nI_eq (by omega) (by omega)] at c1
    rw [b2_nz] at c2
    unfold wiB at c2
    simp only [Bool.and_eq_true, decide_eq_true_eq] at c2
    simp only [nI_clamp (show p < 2 ^ 31 by omega), nI_clamp (show q < 2 ^ 31 by omega), hR.at 38 (by omega) (by omega) (by omega), hR.at 33 (by omega) (by omega) (by omega), nI_clamp (show g 38 p < 2 ^ 31 by omega), nI_clamp (show g 38 q < 2 ^ 31 by omega)]
    refine ⟨vp_in_nI hp (by omega), vp_in_nI a3 (by omega), vp_in_nI hq (by omega), vp_in_nI b3 (by omega), fun c3 => ⟨z01_0, ?_⟩, fun c3 => ⟨z01_1, ?_⟩⟩
    · rw [nI_leI (by omega) (by omega)] at c3
      have e : ahB g p q = false := by
        unfold ahB
        rw [c1]
        simp
        omega
      simpa [b2, e] using h
    · rw [nI_leI (by omega) (by omega)] at c3
      have e : ahB g p q = true := by
        unfold ahB
        rw [c1]
        simp
        omega
      simpa [b2, e] using h
end MG
