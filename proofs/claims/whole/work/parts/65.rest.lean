/-! What is still to be set: tours and rests of plans. -/
def dsT (D : Nat) (t : Nat → Nat) : Nat → Nat
  | 0 => D
  | k + 1 => dsT D t k ||| 2 ^ t k
theorem dsT_bit (D : Nat) (t : Nat → Nat) : ∀ m p, (dsT D t m).testBit p = true ↔ D.testBit p = true ∨ ∃ k, k < m ∧ t k = p
  | 0, p => by simp [dsT]
  | m + 1, p => by
    rw [dsT, or_testBit, Bool.or_eq_true, dsT_bit D t m p, decide_eq_true_eq]
    constructor
    · rintro ((h | ⟨k, h1, h2⟩) | h)
      · exact Or.inl h
      · exact Or.inr ⟨k, by omega, h2⟩
      · exact Or.inr ⟨m, by omega, h.symm⟩
    · rintro (h | ⟨k, h1, h2⟩)
      · exact Or.inl (Or.inl h)
      · by_cases e : k = m
        · subst e; exact Or.inr h2.symm
        · exact Or.inl (Or.inr ⟨k, by omega, h2⟩)
theorem dsT_or (D : Nat) (t : Nat → Nat) : ∀ m, dsT D t m = D ||| dsT 0 t m
  | 0 => by simp [dsT]
  | m + 1 => by rw [dsT, dsT, dsT_or D t m, Nat.or_assoc]
theorem dsT_add (D : Nat) (t : Nat → Nat) (m : Nat) : ∀ k, dsT D t (m + k) = dsT (dsT D t m) (fun j => t (m + j)) k
  | 0 => rfl
  | k + 1 => by rw [show m + (k + 1) = (m + k) + 1 by omega, dsT, dsT, dsT_add D t m k]
theorem dsT_cong {D : Nat} {t t' : Nat → Nat} : ∀ m, (∀ k, k < m → t k = t' k) → dsT D t m = dsT D t' m
  | 0, _ => rfl
  | m + 1, h => by rw [dsT, dsT, dsT_cong m (fun k hk => h k (by omega)), h m (by omega)]
theorem dsT_lt {D n : Nat} {t : Nat → Nat} (hD : D < 2 ^ n) : ∀ m, (∀ k, k < m → t k < n) → dsT D t m < 2 ^ n
  | 0, _ => hD
  | m + 1, h => by
    rw [dsT]
    exact or_lt (dsT_lt hD m (fun k hk => h k (by omega))) (h m (by omega))
theorem pc_or {b p : Nat} (h : b.testBit p = false) : ∀ n, pc (b ||| 2 ^ p) n = pc b n + (if p < n then 1 else 0)
  | 0 => rfl
  | n + 1 => by
    rw [pc, pc, pc_or h n, or_testBit]
    by_cases e : n = p
    · subst e
      have e1 : (if n < n then 1 else 0 : Nat) = 0 := if_neg (by omega)
      have e2 : (if n < n + 1 then 1 else 0 : Nat) = 1 := if_pos (by omega)
      rw [h, e1, e2]
      simp
    · have : decide (n = p) = false := by simp [e]
      rw [this, Bool.or_false]
      by_cases q : p < n
      · have e1 : (if p < n then 1 else 0 : Nat) = 1 := if_pos q
        have e2 : (if p < n + 1 then 1 else 0 : Nat) = 1 := if_pos (by omega)
        rw [e1, e2]; omega
      · have e1 : (if p < n then 1 else 0 : Nat) = 0 := if_neg q
        have e2 : (if p < n + 1 then 1 else 0 : Nat) = 0 := if_neg (by omega)
        rw [e1, e2]; omega
theorem dsT_pc {D : Nat} {t : Nat → Nat} : ∀ m, (∀ k, k < m → t k < 10 ∧ (dsT D t k).testBit (t k) = false) → pc (dsT D t m) 10 = pc D 10 + m
  | 0, _ => rfl
  | m + 1, h => by
    obtain ⟨h1, h2⟩ := h m (by omega)
    rw [dsT, pc_or h2, dsT_pc m (fun k hk => h k (by omega)), if_pos h1]
    omega
theorem pc_full : ∀ n, n < 8 → ∀ D, D < 128 → D < 2 ^ n → (pc D 10 ≤ n ∧ (pc D 10 = n → D = 2 ^ n - 1)) := by decide +kernel
theorem pc_fullN : ∀ n, n < 8 → pc (2 ^ n - 1) 10 = n := by decide +kernel
/-- a tour that may come when D is set -/
def TV (g : GS) (D : Nat) (t : Nat → Nat) (m : Nat) : Prop := 1 ≤ m ∧ m ≤ nzs g ∧ ∀ k, k < m → t k < pls g ∧ (dsT D t k).testBit (t k) = false ∧ (∀ q, q < pls g → ahB g q (t k) = true → (dsT D t k).testBit q = true) ∧ (0 < k → nzP g (t k) = nzP g (t (k - 1)))
theorem TV_cong {g : GS} {D m : Nat} {t t' : Nat → Nat} (h : TV g D t m) (e : ∀ k, k < m → t k = t' k) : TV g D t' m := by
  obtain ⟨h1, h2, h3⟩ := h
  refine ⟨h1, h2, fun k hk => ?_⟩
  obtain ⟨a, b, c, d'⟩ := h3 k hk
  rw [← dsT_cong (D := D) k (fun k' hk' => e k' (by omega)), ← e k hk]
  refine ⟨a, b, c, fun h0 => ?_⟩
  rw [← e (k - 1) (by omega)]
  exact d' h0
theorem TV.nz {g : GS} {D m : Nat} {t : Nat → Nat} (h : TV g D t m) : ∀ k, k < m → nzP g (t k) = nzP g (t 0) := by
  intro k
  induction k with
  | zero => intro _; rfl
  | succ k ih =>
    intro hk
    rw [(h.2.2 (k + 1) hk).2.2.2 (by omega)]
    exact ih (by omega)
/-- the code at index i + k is t k's, and there a tour begins -/
def gl (i : Nat) (t : Nat → Nat) (m : Nat) (c : Nat → Nat) (j : Nat) : Nat := if j < i + m then t (j - i) + (if j = i then 16 else 0) else c j
/-- the rest of a plan, from index i on, when D is set -/
def SG (g : GS) (D i : Nat) (c : Nat → Nat) : Prop := i ≤ pls g ∧ (i < pls g → 16 ≤ c i) ∧ (∀ k, i + k < pls g → c (i + k) < 32 ∧ c (i + k) % 16 < pls g ∧ (dsT D (fun k => c (i + k) % 16) k).testBit (c (i + k) % 16) = false ∧ ∀ q, q < pls g → ahB g q (c (i + k) % 16) = true → (dsT D (fun k => c (i + k) % 16) k).testBit q = true) ∧ tgF (gC g c) (pls g - i) i 0 = true
theorem tgF_run (g : GS) : ∀ k m j c, (∀ j', j ≤ j' → j' < j + k → bgn g j' = false) → (tgF g (k + m) j c = true ↔ (∀ a, a < k → c + a + 1 ≤ nzs g ∧ (c + a + 1 ≤ 1 ∨ nzA g (j + a) = nzA g (j + a - 1))) ∧ tgF g m (j + k) (c + k) = true)
  | 0, m, j, c, _ => by
    rw [Nat.zero_add]
    exact ⟨fun h => ⟨fun a z => by omega, h⟩, fun h => h.2⟩
  | k + 1, m, j, c, h => by
    rw [show k + 1 + m = (k + m) + 1 by omega, tgF, h j (by omega) (by omega)]
    simp only [Bool.false_eq_true, if_false, Bool.and_eq_true, Bool.or_eq_true, decide_eq_true_eq, beq_iff_eq]
    rw [tgF_run g k m (j + 1) (c + 1) (fun j' a b => h j' (by omega) (by omega))]
    rw [show j + 1 + k = j + (k + 1) by omega, show c + 1 + k = c + (k + 1) by omega]
    constructor
    · rintro ⟨h1, h2, h3⟩
      refine ⟨fun a ha => ?_, h3⟩
      by_cases e : a = 0
      · subst e; exact h1
      · have := h2 (a - 1) (by omega)
        rw [show c + 1 + (a - 1) + 1 = c + a + 1 by omega, show j + 1 + (a - 1) = j + a by omega] at this
        exact this
    · rintro ⟨h1, h2⟩
      refine ⟨h1 0 (by omega), fun a ha => ?_, h2⟩
      have := h1 (a + 1) (by omega)
      rw [show c + (a + 1) + 1 = c + 1 + a + 1 by omega, show j + (a + 1) = j + 1 + a by omega] at this
      exact this
theorem tgF_start {g : GS} {j : Nat} (h : bgn g j = true) (f c : Nat) : tgF g (f + 1) j c = true ↔ 1 ≤ nzs g ∧ tgF g f (j + 1) 1 = true := by
  rw [tgF, h]
  simp
/-- one tour of a plan -/
theorem tgF_tour {g : GS} {i m r c : Nat} (hb : bgn g i = true) (hn : ∀ j, i < j → j < i + (m + 1) → bgn g j = false) : tgF g (m + 1 + r) i c = true ↔ (m + 1 ≤ nzs g ∧ ∀ a, 0 < a → a < m + 1 → nzA g (i + a) = nzA g (i + a - 1)) ∧ tgF g r (i + (m + 1)) (m + 1) = true := by
  rw [show m + 1 + r = (m + r) + 1 by omega, tgF_start hb, tgF_run g m r (i + 1) 1 (fun j' a b => hn j' (by omega) (by omega)), show i + 1 + m = i + (m + 1) by omega, show 1 + m = m + 1 by omega]
  constructor
  · rintro ⟨h1, h2, h3⟩
    refine ⟨⟨?_, fun a ha ha2 => ?_⟩, h3⟩
    · by_cases e : m = 0
      · omega
      · have := (h2 (m - 1) (by omega)).1
        omega
    · have := (h2 (a - 1) (by omega)).2
      rw [show i + 1 + (a - 1) = i + a by omega] at this
      rcases this with q | q
      · omega
      · exact q
  · rintro ⟨⟨h1, h2⟩, h3⟩
    refine ⟨by omega, fun a ha => ⟨by omega, Or.inr ?_⟩, h3⟩
    have := h2 (a + 1) (by omega) (by omega)
    rw [show i + (a + 1) = i + 1 + a by omega] at this
    exact this
theorem tgF_any {g : GS} {j : Nat} (r c c' : Nat) (h : 0 < r → bgn g j = true) : tgF g r j c = tgF g r j c' := by
  cases r with
  | zero => rfl
  | succ r => rw [Bool.eq_iff_iff, tgF_start (h (by omega)), tgF_start (h (by omega))]
theorem tgF_c1 {g : GS} {c c' : Nat → Nat} : ∀ f j n, (∀ j', j ≤ j' + 1 → j' < j + f → c j' = c' j') → tgF (gC g c) f j n = tgF (gC g c') f j n
  | 0, _, _, _ => rfl
  | f + 1, j, n, h => by
    have e1 : bgn (gC g c) j = bgn (gC g c') j := by
      show decide (16 ≤ c j) = decide (16 ≤ c' j)
      rw [h j (by omega) (by omega)]
    have e2 : nzA (gC g c) j = nzA (gC g c') j := by
      show nzP g (c j % 16) = nzP g (c' j % 16)
      rw [h j (by omega) (by omega)]
    have e3 : nzA (gC g c) (j - 1) = nzA (gC g c') (j - 1) := by
      show nzP g (c (j - 1) % 16) = nzP g (c' (j - 1) % 16)
      rw [h (j - 1) (by omega) (by omega)]
    rw [tgF, tgF, e1, e2, e3, tgF_c1 f (j + 1) _ (fun j' a b => h j' (by omega) (by omega))]
    rfl
theorem tgF_c2 {g : GS} {c c' : Nat → Nat} {f j n : Nat} (hb : 0 < f → 16 ≤ c j) (h : ∀ j', j ≤ j' → j' < j + f → c j' = c' j') : tgF (gC g c) f j n = tgF (gC g c') f j n := by
  cases f with
  | zero => rfl
  | succ f =>
    have b1 : bgn (gC g c) j = true := by
      show decide (16 ≤ c j) = true
      simpa using hb (by omega)
    have b2' : bgn (gC g c') j = true := by
      show decide (16 ≤ c' j) = true
      rw [← h j (by omega) (by omega)]
      simpa using hb (by omega)
    rw [Bool.eq_iff_iff, tgF_start b1, tgF_start b2', tgF_c1 f (j + 1) 1 (fun j' a b => h j' (by omega) (by omega))]
    rfl
theorem enT_gC {g : GS} {c : Nat → Nat} {i : Nat} (hi : i < pls g) : i < enT (gC g c) i ∧ enT (gC g c) i ≤ pls g ∧ (∀ j, i < j → j < enT (gC g c) i → c j < 16) ∧ (enT (gC g c) i < pls g → 16 ≤ c (enT (gC g c) i)) := by
  have hl := fst_le (fun j => bgn (gC g c) j) (pls g - (i + 1)) (i + 1)
  have e0 : enT (gC g c) i = fst (fun j => bgn (gC g c) j) (pls g - (i + 1)) (i + 1) := rfl
  rw [e0]
  refine ⟨by omega, by omega, fun j a b => ?_, fun h => ?_⟩
  · have := fst_no (fun j => bgn (gC g c) j) _ _ j (by omega) b
    have : decide (16 ≤ c j) = false := this
    simpa using this
  · have := fst_yes (fun j => bgn (gC g c) j) (pls g - (i + 1)) (i + 1) (by omega)
    have : decide (16 ≤ c (fst (fun j => bgn (gC g c) j) (pls g - (i + 1)) (i + 1))) = true := this
    simpa using this
theorem enT_is {g : GS} {c : Nat → Nat} {i e : Nat} (h1 : i < e) (h2 : e ≤ pls g) (h3 : ∀ j, i < j → j < e → c j < 16) (h4 : e < pls g → 16 ≤ c e) : enT (gC g c) i = e := by
  obtain ⟨a1, a2, a3, a4⟩ := enT_gC (g := g) (c := c) (i := i) (by omega)
  rcases Nat.lt_trichotomy (enT (gC g c) i) e with q | q | q
  · have := h3 _ a1 q
    have := a4 (by omega)
    omega
  · exact q
  · have := a3 e h1 q
    have := h4 (by omega)
    omega
theorem SG_split {g : GS} {D i : Nat} {c : Nat → Nat} (h : SG g D i c) (hi : i < pls g) : TV g D (fun k => c (i + k) % 16) (enT (gC g c) i - i) ∧ SG g (dsT D (fun k => c (i + k) % 16) (enT (gC g c) i - i)) (enT (gC g c) i) c := by
  obtain ⟨a1, a2, a3, a4⟩ := enT_gC (g := g) (c := c) (i := i) hi
  obtain ⟨h1, h2, h3, h4⟩ := h
  generalize enT (gC g c) i = e at a1 a2 a3 a4
  have ht : (∀ k, 0 < k → k < e - i → nzP g (c (i + k) % 16) = nzP g (c (i + (k - 1)) % 16)) ∧ e - i ≤ nzs g ∧ tgF (gC g c) (pls g - e) e 0 = true := by
    have hb : bgn (gC g c) i = true := by
      show decide (16 ≤ c i) = true
      simpa using h2 hi
    have hn : ∀ j, i < j → j < i + ((e - i - 1) + 1) → bgn (gC g c) j = false := fun j x y => by
      show decide (16 ≤ c j) = false
      have := a3 j x (by omega)
      simp; omega
    have := (tgF_tour (r := pls g - e) (c := 0) hb hn).mp (by rw [show e - i - 1 + 1 + (pls g - e) = pls g - i by omega]; exact h4)
    rw [show e - i - 1 + 1 = e - i by omega, show i + (e - i) = e by omega] at this
    obtain ⟨⟨t1, t2⟩, t3⟩ := this
    refine ⟨fun k hk hk2 => ?_, t1, ?_⟩
    · have := t2 k hk hk2
      rw [show i + k - 1 = i + (k - 1) by omega] at this
      exact this
    · rw [tgF_any (pls g - e) 0 (e - i) (fun z => ?_)]
      · exact t3
      · show decide (16 ≤ c e) = true
        simpa using a4 (by omega)
  refine ⟨⟨by omega, ht.2.1, fun k hk => ?_⟩, a2, a4, fun k hk => ?_, ht.2.2⟩
  · obtain ⟨b1, b2', b3, b4⟩ := h3 k (by omega)
    exact ⟨b2', b3, b4, fun h0 => ht.1 k h0 hk⟩
  · obtain ⟨b1, b2', b3, b4⟩ := h3 (e - i + k) (by omega)
    rw [show i + (e - i + k) = e + k by omega] at b1 b2' b3 b4
    rw [dsT_add] at b3
    simp only [dsT_add] at b4
    have e1 : (fun j => (fun k => c (i + k) % 16) (e - i + j)) = fun k => c (e + k) % 16 := by
      funext j
      show c (i + (e - i + j)) % 16 = _
      rw [show i + (e - i + j) = e + j by omega]
    rw [e1] at b3
    have b4' : ∀ q, q < pls g → ahB g q (c (e + k) % 16) = true → (dsT (dsT D (fun k => c (i + k) % 16) (e - i)) (fun k => c (e + k) % 16) k).testBit q = true := by
      rw [← e1]; exact b4
    exact ⟨b1, b2', b3, b4'⟩
theorem gl_mod {i m : Nat} {t c : Nat → Nat} {k : Nat} (hk : k < m) (ht : t k < 16) : gl i t m c (i + k) % 16 = t k ∧ gl i t m c (i + k) < 32 ∧ (16 ≤ gl i t m c (i + k) ↔ k = 0) := by
  unfold gl
  rw [if_pos (by omega), show i + k - i = k by omega]
  by_cases q : k = 0
  · rw [if_pos (by omega)]; omega
  · rw [if_neg (by omega)]; omega
theorem gl_out {i m : Nat} {t c : Nat → Nat} {j : Nat} (h : i + m ≤ j) : gl i t m c j = c j := if_neg (by omega)
theorem SG_glue {g : GS} {D i m : Nat} {t c : Nat → Nat} (hp : pls g ≤ 10) (hT : TV g D t m) (h : SG g (dsT D t m) (i + m) c) : SG g D i (gl i t m c) ∧ enT (gC g (gl i t m c)) i = i + m := by
  obtain ⟨t1, t2, t3⟩ := hT
  obtain ⟨h1, h2, h3, h4⟩ := h
  have ht : ∀ k, k < m → t k < 16 := fun k hk => by have := (t3 k hk).1; omega
  have htc : ∀ k, k ≤ m → dsT D (fun k => gl i t m c (i + k) % 16) k = dsT D t k := fun k hk => dsT_cong k (fun k' hk' => (gl_mod (by omega) (ht k' (by omega))).1)
  have he : enT (gC g (gl i t m c)) i = i + m := enT_is (by omega) h1 (fun j a b => by
    have := gl_mod (i := i) (m := m) (t := t) (c := c) (k := j - i) (by omega) (ht _ (by omega))
    rw [show i + (j - i) = j by omega] at this
    omega) (fun z => by rw [gl_out (by omega)]; exact h2 z)
  refine ⟨⟨by omega, fun _ => ?_, fun k hk => ?_, ?_⟩, he⟩
  · have := (gl_mod (i := i) (m := m) (t := t) (c := c) (k := 0) (by omega) (ht 0 (by omega))).2.2
    rw [Nat.add_zero] at this
    exact this.mpr rfl
  · by_cases q : k < m
    · obtain ⟨g1, g2, g3⟩ := gl_mod (i := i) (m := m) (t := t) (c := c) (k := k) q (ht k q)
      obtain ⟨b1, b2', b3, b4⟩ := t3 k q
      rw [htc k (by omega), g1]
      exact ⟨g2, b1, b2', b3⟩
    · obtain ⟨b1, b2', b3, b4⟩ := h3 (k - m) (by omega)
      have e1 : dsT D (fun k => gl i t m c (i + k) % 16) k = dsT (dsT D t m) (fun k => c (i + m + k) % 16) (k - m) := by
        rw [show k = m + (k - m) by omega, dsT_add, htc m (by omega), show m + (k - m) - m = k - m by omega]
        refine dsT_cong _ (fun k' _ => ?_)
        show gl i t m c (i + (m + k')) % 16 = _
        rw [gl_out (by omega), show i + (m + k') = i + m + k' by omega]
      rw [e1, gl_out (by omega), show i + k = i + m + (k - m) by omega]
      exact ⟨b1, b2', b3, b4⟩
  · have hb : bgn (gC g (gl i t m c)) i = true := by
      show decide (16 ≤ gl i t m c i) = true
      have := (gl_mod (i := i) (m := m) (t := t) (c := c) (k := 0) (by omega) (ht 0 (by omega))).2.2
      rw [Nat.add_zero] at this
      rw [decide_eq_true_eq]
      exact this.mpr rfl
    have hn : ∀ j, i < j → j < i + ((m - 1) + 1) → bgn (gC g (gl i t m c)) j = false := fun j x y => by
      show decide (16 ≤ gl i t m c j) = false
      have := gl_mod (i := i) (m := m) (t := t) (c := c) (k := j - i) (by omega) (ht _ (by omega))
      rw [show i + (j - i) = j by omega] at this
      simp; omega
    have key := (tgF_tour (r := pls g - (i + m)) (c := 0) hb hn).mpr ?_
    · rw [show m - 1 + 1 + (pls g - (i + m)) = pls g - i by omega] at key
      exact key
    · rw [show m - 1 + 1 = m by omega]
      refine ⟨⟨t2, fun a a1 a2 => ?_⟩, ?_⟩
      · have e1 := (gl_mod (i := i) (m := m) (t := t) (c := c) (k := a) a2 (ht a a2)).1
        have e2 := (gl_mod (i := i) (m := m) (t := t) (c := c) (k := a - 1) (by omega) (ht (a - 1) (by omega))).1
        show nzP g (gl i t m c (i + a) % 16) = nzP g (gl i t m c (i + a - 1) % 16)
        rw [show i + a - 1 = i + (a - 1) by omega, e1, e2]
        exact (t3 a a2).2.2.2 a1
      · rw [tgF_any (pls g - (i + m)) m 0 (fun z => ?_), ← tgF_c2 (c := c) (fun z => h2 (by omega)) (fun j' a b => (gl_out a).symm)]
        · exact h4
        · show decide (16 ≤ gl i t m c (i + m)) = true
          rw [gl_out (by omega), decide_eq_true_eq]
          exact h2 (by omega)
