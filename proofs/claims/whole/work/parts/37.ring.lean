/-! Rings. -/
/-- a set, not empty, each member of which has one ahead of it in the set -/
def Rg (n : Nat) (A : Nat → Nat → Bool) : Prop := ∃ S : Nat → Bool, (∃ x, x < n ∧ S x = true) ∧ ∀ x, x < n → S x = true → ∃ y, y < n ∧ S y = true ∧ A y x = true
/-- what lies before a set, in so many rounds -/
def an (n : Nat) (A : Nat → Nat → Bool) (L : Nat → Bool) : Nat → Nat → Bool
  | 0 => L
  | k + 1 => fun x => an n A L k x || decide (0 < cnt (fun y => an n A L k y && A x y) n 0)
theorem an_succ {n : Nat} {A : Nat → Nat → Bool} {L : Nat → Bool} {k x : Nat} : an n A L (k + 1) x = true ↔ an n A L k x = true ∨ ∃ y, y < n ∧ an n A L k y = true ∧ A x y = true := by
  show (an n A L k x || decide (0 < cnt (fun y => an n A L k y && A x y) n 0)) = true ↔ _
  rw [Bool.or_eq_true, decide_eq_true_eq, cnt_pos]
  constructor
  · rintro (h | ⟨y, h1, h2, h3⟩)
    · exact Or.inl h
    · rw [Bool.and_eq_true] at h3
      exact Or.inr ⟨y, by omega, h3⟩
  · rintro (h | ⟨y, h1, h2⟩)
    · exact Or.inl h
    · exact Or.inr ⟨y, by omega, by omega, by rw [Bool.and_eq_true]; exact h2⟩
theorem an_mono {n : Nat} {A : Nat → Nat → Bool} {L : Nat → Bool} {x : Nat} : ∀ {k m : Nat}, k ≤ m → an n A L k x = true → an n A L m x = true := by
  intro k m h
  induction m with
  | zero =>
    intro hx
    rw [show k = 0 by omega] at hx
    exact hx
  | succ m ih =>
    intro hx
    by_cases hk : k = m + 1
    · rw [← hk]; exact hx
    · exact an_succ.mpr (Or.inl (ih (by omega) hx))
theorem cnt_mono {P R : Nat → Bool} : ∀ n i, (∀ j, i ≤ j → j < i + n → P j = true → R j = true) → cnt P n i ≤ cnt R n i
  | 0, _, _ => Nat.le_refl _
  | n + 1, i, h => by
    rw [cnt, cnt]
    have ih := cnt_mono (P := P) (R := R) n (i + 1) (fun j a b => h j (by omega) (by omega))
    have h0 := h i (by omega) (by omega)
    cases hP : P i <;> cases hR : R i <;> simp_all <;> omega
theorem cnt_lt {P R : Nat → Bool} : ∀ n i, (∀ j, i ≤ j → j < i + n → P j = true → R j = true) → (∃ j, i ≤ j ∧ j < i + n ∧ P j = false ∧ R j = true) → cnt P n i < cnt R n i
  | 0, _, _, ⟨j, a, b, _⟩ => by omega
  | n + 1, i, h, ⟨j, a, b, c, d⟩ => by
    rw [cnt, cnt]
    have hm := cnt_mono (P := P) (R := R) n (i + 1) (fun j a b => h j (by omega) (by omega))
    have h0 := h i (by omega) (by omega)
    by_cases hj : j = i
    · subst hj
      rw [c, d]
      simp
      omega
    · have ih := cnt_lt (P := P) (R := R) n (i + 1) (fun j a b => h j (by omega) (by omega)) ⟨j, by omega, by omega, c, d⟩
      cases hP : P i <;> cases hR : R i <;> simp_all <;> omega
theorem an_grow {n : Nat} {A : Nat → Nat → Bool} {L : Nat → Bool} : ∀ k, (∃ x, x < n ∧ an n A L (k + 1) x = true ∧ an n A L k x = false) → k < cnt (an n A L k) n 0
  | 0, ⟨x, h1, h2, h3⟩ => by
    rw [an_succ] at h2
    rcases h2 with h | ⟨y, a, b, c⟩
    · rw [h] at h3; exact absurd h3 (by decide)
    · exact cnt_pos.mpr ⟨y, by omega, by omega, b⟩
  | k + 1, ⟨x, h1, h2, h3⟩ => by
    have hne : ∃ x, x < n ∧ an n A L (k + 1) x = true ∧ an n A L k x = false := by
      rw [an_succ] at h2
      rcases h2 with h | ⟨y, a, b, c⟩
      · rw [h] at h3; exact absurd h3 (by decide)
      · refine ⟨y, a, b, ?_⟩
        cases hy : an n A L k y
        · rfl
        · have : an n A L (k + 1) x = true := an_succ.mpr (Or.inr ⟨y, a, hy, c⟩)
          rw [this] at h3
          exact absurd h3 (by decide)
    have ih := an_grow k hne
    obtain ⟨y, a, b, c⟩ := hne
    have := cnt_lt (P := an n A L k) (R := an n A L (k + 1)) n 0 (fun j _ _ h => an_mono (by omega) h) ⟨y, by omega, by omega, c, b⟩
    omega
/-- after ten rounds nothing more lies before -/
theorem an_closed {n : Nat} {A : Nat → Nat → Bool} {L : Nat → Bool} (hn : n ≤ 10) {x y : Nat} (hx : x < n) (hy : y < n) (h : an n A L 10 y = true) (ha : A x y = true) : an n A L 10 x = true := by
  cases hc : an n A L 10 x
  · have := an_grow (n := n) (A := A) (L := L) 10 ⟨x, hx, an_succ.mpr (Or.inr ⟨y, hy, h, ha⟩), hc⟩
    have := cnt_le (an n A L 10) n 0
    omega
  · rfl
/-- from a place before the set a way leads into it -/
theorem an_way {n : Nat} {A : Nat → Nat → Bool} {L : Nat → Bool} : ∀ (k h : Nat), h < n → an n A L k h = true → ∃ S : Nat → Bool, (∀ x, S x = true → x < n) ∧ S h = true ∧ (∀ x, S x = true → x = h ∨ ∃ y, S y = true ∧ A y x = true) ∧ ∃ l, S l = true ∧ L l = true
  | 0, h, hh, ha => ⟨fun x => decide (x = h), fun x hx => by have := of_decide_eq_true hx; omega, by simp, fun x hx => Or.inl (of_decide_eq_true hx), h, by simp, ha⟩
  | k + 1, h, hh, ha => by
    rw [an_succ] at ha
    rcases ha with ha | ⟨y, a, b, c⟩
    · exact an_way k h hh ha
    · obtain ⟨S, s1, s2, s3, l, s4, s5⟩ := an_way k y a b
      refine ⟨fun x => decide (x = h) || S x, fun x hx => ?_, by simp, fun x hx => ?_, l, by simp [s4], s5⟩
      · rw [Bool.or_eq_true, decide_eq_true_eq] at hx
        rcases hx with q | q
        · omega
        · exact s1 x q
      · rw [Bool.or_eq_true, decide_eq_true_eq] at hx
        by_cases hxh : x = h
        · exact Or.inl hxh
        · rcases hx with q | q
          · exact absurd q hxh
          · rcases s3 x q with r | ⟨z, r1, r2⟩
            · exact Or.inr ⟨h, by simp, by rw [r]; exact c⟩
            · exact Or.inr ⟨z, by simp [r1], r2⟩
/-- a new place p = n -/
theorem ring_place {n : Nat} {A : Nat → Nat → Bool} (hn : n ≤ 9) (h0 : ¬ Rg n A) (hs : A n n = false) : Rg (n + 1) A ↔ ∃ h, h < n ∧ an n A (fun q => A q n) 10 h = true ∧ A n h = true := by
  constructor
  · rintro ⟨S, ⟨x, hx, sx⟩, hS⟩
    apply Classical.byContradiction
    intro hno
    apply h0
    by_cases hp : S n = true
    · refine ⟨fun x => S x && an n A (fun q => A q n) 10 x, ?_, fun x hx hx2 => ?_⟩
      · obtain ⟨y, a, b, c⟩ := hS n (by omega) hp
        have hy : y ≠ n := fun e => by rw [e, hs] at c; exact absurd c (by decide)
        refine ⟨y, by omega, ?_⟩
        show (S y && an n A (fun q => A q n) 10 y) = true
        rw [Bool.and_eq_true]
        exact ⟨b, an_mono (k := 0) (by omega) c⟩
      · have hx2 : (S x && an n A (fun q => A q n) 10 x) = true := hx2
        rw [Bool.and_eq_true] at hx2
        obtain ⟨y, a, b, c⟩ := hS x (by omega) hx2.1
        have hy : y ≠ n := fun e => hno ⟨x, hx, hx2.2, by rw [e] at c; exact c⟩
        refine ⟨y, by omega, ?_, c⟩
        show (S y && an n A (fun q => A q n) 10 y) = true
        rw [Bool.and_eq_true]
        exact ⟨b, an_closed (by omega) (by omega) hx hx2.2 c⟩
    · refine ⟨S, ⟨x, ?_, sx⟩, fun x hx hx2 => ?_⟩
      · have : x ≠ n := fun e => hp (by rw [← e]; exact sx)
        omega
      · obtain ⟨y, a, b, c⟩ := hS x (by omega) hx2
        have : y ≠ n := fun e => hp (by rw [← e]; exact b)
        exact ⟨y, by omega, b, c⟩
  · rintro ⟨h, h1, h2, h3⟩
    obtain ⟨S, s1, s2, s3, l, s4, s5⟩ := an_way 10 h h1 h2
    refine ⟨fun x => decide (x = n) || S x, ⟨n, by omega, by simp⟩, fun x hx hx2 => ?_⟩
    have hx2 : (decide (x = n) || S x) = true := hx2
    rw [Bool.or_eq_true, decide_eq_true_eq] at hx2
    rcases hx2 with q | q
    · have := s1 l s4
      exact ⟨l, by omega, by simp [s4], by rw [q]; exact s5⟩
    · rcases s3 x q with r | ⟨y, r1, r2⟩
      · exact ⟨n, by omega, by simp, by rw [r]; exact h3⟩
      · have := s1 y r1
        exact ⟨y, by omega, by simp [r1], r2⟩
/-- p told as late behind q -/
theorem ring_late {n p q : Nat} {A A' : Nat → Nat → Bool} (hn : n ≤ 10) (hp : p < n) (hq : q < n) (h0 : ¬ Rg n A) (hA : ∀ x y, x < n → y < n → (A' x y = true ↔ A x y = true ∨ (x = q ∧ y = p))) : Rg n A' ↔ an n A (fun x => decide (x = q)) 10 p = true := by
  constructor
  · rintro ⟨S, ⟨x, hx, sx⟩, hS⟩
    apply Classical.byContradiction
    intro hno
    apply h0
    by_cases hE : ∃ z, z < n ∧ S z = true ∧ an n A (fun x => decide (x = q)) 10 z = true
    · obtain ⟨z, z1, z2, z3⟩ := hE
      refine ⟨fun x => S x && an n A (fun x => decide (x = q)) 10 x, ⟨z, z1, by show (S z && _) = true; rw [z2, z3]; rfl⟩, fun x hx hx2 => ?_⟩
      have hx2 : (S x && an n A (fun x => decide (x = q)) 10 x) = true := hx2
      rw [Bool.and_eq_true] at hx2
      obtain ⟨y, a, b, c⟩ := hS x hx hx2.1
      rw [hA y x a hx] at c
      rcases c with c | ⟨c1, c2⟩
      · refine ⟨y, a, ?_, c⟩
        show (S y && an n A (fun x => decide (x = q)) 10 y) = true
        rw [Bool.and_eq_true]
        exact ⟨b, an_closed hn a hx hx2.2 c⟩
      · exact absurd (by rw [← c2]; exact hx2.2) hno
    · refine ⟨S, ⟨x, hx, sx⟩, fun x hx hx2 => ?_⟩
      obtain ⟨y, a, b, c⟩ := hS x hx hx2
      rw [hA y x a hx] at c
      rcases c with c | ⟨c1, c2⟩
      · exact ⟨y, a, b, c⟩
      · refine absurd ⟨y, a, b, an_mono (k := 0) (by omega) ?_⟩ hE
        show decide (y = q) = true
        simp [c1]
  · intro h
    obtain ⟨S, s1, s2, s3, l, s4, s5⟩ := an_way 10 p hp h
    have hl : l = q := of_decide_eq_true s5
    refine ⟨S, ⟨p, hp, s2⟩, fun x hx hx2 => ?_⟩
    rcases s3 x hx2 with r | ⟨y, r1, r2⟩
    · refine ⟨l, s1 l s4, s4, (hA l x (s1 l s4) hx).mpr (Or.inr ⟨hl, r⟩)⟩
    · exact ⟨y, s1 y r1, r1, (hA y x (s1 y r1) hx).mpr (Or.inl r2)⟩
