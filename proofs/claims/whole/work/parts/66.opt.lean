/-! The best rest of a plan. -/
theorem enF_c {g : GS} {t t' : Nat → Nat} : ∀ m, (∀ k, k < m → t k = t' k) → enF g t m = enF g t' m
  | 0, _ => rfl
  | m + 1, h => by rw [enF, enF, enF_c m (fun k hk => h k (by omega)), h m (by omega)]
theorem hiF_c {g : GS} {t t' : Nat → Nat} : ∀ m, (∀ k, k < m → t k = t' k) → hiF g t m = hiF g t' m
  | 0, _ => rfl
  | m + 1, h => by rw [hiF, hiF, hiF_c m (fun k hk => h k (by omega)), h m (by omega)]
theorem fnF_c {g : GS} {t t' : Nat → Nat} : ∀ m, (∀ k, k < m → t k = t' k) → fnF g t m = fnF g t' m
  | 0, _ => rfl
  | m + 1, h => by rw [fnF, fnF, fnF_c m (fun k hk => h k (by omega)), h m (by omega)]
theorem isF_c {g : GS} {t t' : Nat → Nat} : ∀ m, (∀ k, k < m → t k = t' k) → isF g t m = isF g t' m
  | 0, _ => rfl
  | 1, _ => rfl
  | m + 2, h => by rw [isF, isF, isF_c (m + 1) (fun k hk => h k (by omega)), h m (by omega), h (m + 1) (by omega)]
theorem tcF_c {g : GS} {hx hy hz : Nat} {t t' : Nat → Nat} {m : Nat} (hm : 1 ≤ m) (h : ∀ k, k < m → t k = t' k) : tcF g hx hy hz t m = tcF g hx hy hz t' m := by
  unfold tcF fxF lvF
  rw [enF_c m h, hiF_c m h, fnF_c m h, isF_c m h, h 0 (by omega)]
theorem enF_g (g : GS) (c t : Nat → Nat) : ∀ m, enF (gC g c) t m = enF g t m
  | 0 => rfl
  | m + 1 => by rw [enF, enF, enF_g g c t m]; rfl
theorem hiF_g (g : GS) (c t : Nat → Nat) : ∀ m, hiF (gC g c) t m = hiF g t m
  | 0 => rfl
  | m + 1 => by rw [hiF, hiF, hiF_g g c t m]; rfl
theorem fnF_g (g : GS) (c t : Nat → Nat) : ∀ m, fnF (gC g c) t m = fnF g t m
  | 0 => rfl
  | m + 1 => by rw [fnF, fnF, fnF_g g c t m]; rfl
theorem isF_g (g : GS) (c t : Nat → Nat) : ∀ m, isF (gC g c) t m = isF g t m
  | 0 => rfl
  | 1 => rfl
  | m + 2 => by rw [isF, isF, isF_g g c t (m + 1)]; rfl
theorem tcF_g (g : GS) (c : Nat → Nat) (hx hy hz : Nat) (t : Nat → Nat) (m : Nat) : tcF (gC g c) hx hy hz t m = tcF g hx hy hz t m := by
  unfold tcF fxF lvF
  rw [enF_g, hiF_g, fnF_g, isF_g]
  rfl
def hdN (g : GS) (q : Nat) : Nat × Nat × Nat := if q = 7 then (0, 0, 0) else (g 36 q, g 37 q, nzP g q)
def CS (g : GS) (c : Nat → Nat) : Nat → Nat → Nat × Nat × Nat → Nat
  | 0, _, _ => 0
  | f + 1, i, h => if i < pls g then tcF g h.1 h.2.1 h.2.2 (fun k => c (i + k) % 16) (enT (gC g c) i - i) + CS g c f (enT (gC g c) i) (hdN g (c (enT (gC g c) i - 1) % 16)) else 0
def cst (g : GS) (c : Nat → Nat) (i q : Nat) : Nat := CS g c (pls g - i) i (hdN g q)
theorem CS_fuel {g : GS} {c : Nat → Nat} : ∀ f f' i h, pls g - i ≤ f → pls g - i ≤ f' → CS g c f i h = CS g c f' i h
  | 0, 0, i, h, _, _ => rfl
  | 0, f' + 1, i, h, a, _ => by rw [CS, CS, if_neg (by omega)]
  | f + 1, 0, i, h, _, b => by rw [CS, CS, if_neg (by omega)]
  | f + 1, f' + 1, i, h, a, b => by
    rw [CS, CS]
    by_cases q : i < pls g
    · have := enT_gC (g := g) (c := c) q
      rw [if_pos q, if_pos q, CS_fuel f f' (enT (gC g c) i) _ (by omega) (by omega)]
    · rw [if_neg q, if_neg q]
theorem CS_cong {g : GS} {c c' : Nat → Nat} : ∀ f i h, (∀ j, i ≤ j → j < pls g → c j = c' j) → CS g c f i h = CS g c' f i h
  | 0, _, _, _ => rfl
  | f + 1, i, h, hc => by
    rw [CS, CS]
    by_cases q : i < pls g
    · obtain ⟨a1, a2, a3, a4⟩ := enT_gC (g := g) (c := c) q
      have e : enT (gC g c') i = enT (gC g c) i := enT_is a1 a2 (fun j x y => by rw [← hc j (by omega) (by omega)]; exact a3 j x y) (fun z => by rw [← hc _ (by omega) z]; exact a4 z)
      rw [if_pos q, if_pos q, e, CS_cong f (enT (gC g c) i) _ (fun j x y => hc j (by omega) y), hc (enT (gC g c) i - 1) (by omega) (by omega)]
      congr 1
      exact tcF_c (by omega) (fun k hk => by rw [hc (i + k) (by omega) (by omega)])
    · rw [if_neg q, if_neg q]
theorem cst_step {g : GS} {c : Nat → Nat} {i q : Nat} (h : i < pls g) : cst g c i q = tcF g (hdN g q).1 (hdN g q).2.1 (hdN g q).2.2 (fun k => c (i + k) % 16) (enT (gC g c) i - i) + cst g c (enT (gC g c) i) (c (enT (gC g c) i - 1) % 16) := by
  have := enT_gC (g := g) (c := c) h
  unfold cst
  rw [show pls g - i = (pls g - i - 1) + 1 by omega, CS, if_pos h, CS_fuel (pls g - i - 1) (pls g - enT (gC g c) i) _ _ (by omega) (by omega)]
theorem cst_end {g : GS} {c : Nat → Nat} {q : Nat} : cst g c (pls g) q = 0 := by
  unfold cst
  rw [Nat.sub_self]
  rfl
theorem cst_cong {g : GS} {c c' : Nat → Nat} {i q : Nat} (h : ∀ j, i ≤ j → j < pls g → c j = c' j) : cst g c i q = cst g c' i q := CS_cong _ _ _ h
/-- the ticks of a plan -/
theorem tk_CS {g : GS} {c : Nat → Nat} (hW : Wk g) (hp7 : pls g ≤ 7) (hs : ∀ p, p < pls g → slO g (g 38 p) < 8) : ∀ f i D h, SG g D i c → (tkF (gC g c) f i h).2.2.2 = h.2.2.2 + CS g c f i (h.1, h.2.1, h.2.2.1)
  | 0, _, _, _, _ => rfl
  | f + 1, i, D, h, hS => by
    rw [tkF, CS]
    have e0 : pln (gC g c) = pls g := rfl
    rw [e0]
    by_cases q : i < pls g
    · obtain ⟨a1, a2, a3, a4⟩ := enT_gC (g := g) (c := c) q
      obtain ⟨hT, hS2⟩ := SG_split hS q
      have hpl : ∀ j, i ≤ j → j < pls g → c j % 16 < pls g := fun j x y => by
        have := (hS.2.2.1 (j - i) (by omega)).2.1
        rw [show i + (j - i) = j by omega] at this
        exact this
      have htr := trF_eq (g := gC g c) (i := i) (m := enT (gC g c) i - i - 1) (fun k hk => (hW.2.2.2.1 k hk).2.2.2) (fun j x y => by
        have hj := hpl j x (by omega)
        exact ⟨(hW.2.2.1 (c j % 16) (by omega)).2.2, hs _ hj⟩) h
      have hm1 : enT (gC g c) i - i - 1 + 1 = enT (gC g c) i - i := by omega
      have hm2 : i + (enT (gC g c) i - i) = enT (gC g c) i := by omega
      have hm3 : i + (enT (gC g c) i - i - 1) = enT (gC g c) i - 1 := by omega
      rw [hm1, hm2, hm3, tcF_g] at htr
      rw [if_pos q, if_pos q, htr, tk_CS hW hp7 hs f _ _ _ hS2]
      have hl : c (enT (gC g c) i - 1) % 16 < pls g := hpl _ (by omega) (by omega)
      have hh : hdN g (c (enT (gC g c) i - 1) % 16) = (g 36 (c (enT (gC g c) i - 1) % 16), g 37 (c (enT (gC g c) i - 1) % 16), nzP g (c (enT (gC g c) i - 1) % 16)) := if_neg (by omega)
      have hn := hT.nz (enT (gC g c) i - 1 - i) (by omega)
      have hn : nzP g (c (i + (enT (gC g c) i - 1 - i)) % 16) = nzP g (c (i + 0) % 16) := hn
      rw [show i + (enT (gC g c) i - 1 - i) = enT (gC g c) i - 1 by omega, Nat.add_zero] at hn
      rw [hh, hn]
      show _ + tcF g _ _ _ (fun k => c (i + k) % 16) _ + CS g c f _ (g 36 (c (enT (gC g c) i - 1) % 16), g 37 (c (enT (gC g c) i - 1) % 16), nzP g (c i % 16)) = _
      exact Nat.add_assoc _ _ _
    · rw [if_neg q, if_neg q]
      rfl
/-- a rest of the whole is a good plan -/
theorem SG_good {g : GS} {c : Nat → Nat} (hp : Wp g) (hn : 1 ≤ pls g) (hs : ∀ p, p < pls g → slO g (g 38 p) < 8) : SG g 0 0 c ↔ vC g c ∧ gdB (gC g c) = true := by
  have e0 : pln (gC g c) = pls g := rfl
  have ez : ∀ k, (fun k => c (0 + k) % 16) k = c k % 16 := fun k => by show c (0 + k) % 16 = _; rw [Nat.zero_add]
  have hz : (fun k => c (0 + k) % 16) = fun k => c k % 16 := funext ez
  have hg : gdB (gC g c) = true ↔ tgF (gC g c) (pls g) 0 0 = true ∧ (∀ j, j < pls g → slO g (g 38 (c j % 16)) < 8) ∧ ∀ i j, i < j → j < pls g → ahB g (c j % 16) (c i % 16) = false := by
    unfold gdB
    rw [e0, gdF_split, Bool.and_eq_true, Bool.and_eq_true, Bool.and_eq_true, alB_iff, alB_iff, decide_eq_true_eq]
    constructor
    · rintro ⟨-, h1, h2, h3⟩
      refine ⟨h1, fun j hj => ?_, fun i j hij hj => ?_⟩
      · have := h2 j (by omega) (by omega)
        rw [decide_eq_true_eq] at this
        exact this
      · have := h3 i (by omega) (by omega)
        rw [e0, alB_iff] at this
        have := this j (by omega) (by omega)
        have : (!ahB g (c j % 16) (c i % 16)) = true := this
        simpa using this
    · rintro ⟨h1, h2, h3⟩
      refine ⟨rfl, h1, fun j _ hj => ?_, fun i _ hi => ?_⟩
      · rw [decide_eq_true_eq]
        exact h2 j (by omega)
      · rw [e0, alB_iff]
        intro j x y
        show (!ahB g (c j % 16) (c i % 16)) = true
        rw [h3 i j (by omega) (by omega)]
        rfl
  unfold SG
  rw [hz, hg, Nat.sub_zero]
  constructor
  · rintro ⟨-, h2, h3, h4⟩
    have h3' : ∀ k, k < pls g → c k < 32 ∧ c k % 16 < pls g ∧ (dsT 0 (fun k => c k % 16) k).testBit (c k % 16) = false ∧ ∀ q, q < pls g → ahB g q (c k % 16) = true → (dsT 0 (fun k => c k % 16) k).testBit q = true := fun k hk => by
      have := h3 k (by omega)
      rw [Nat.zero_add] at this
      exact this
    have inj : ∀ i j, i < j → j < pls g → c i % 16 ≠ c j % 16 := fun i j hij hj e => by
      have h1 := (h3' j hj).2.2.1
      have h5 := (dsT_bit 0 (fun k => c k % 16) j (c j % 16)).mpr (Or.inr ⟨i, hij, e⟩)
      rw [h1] at h5
      exact absurd h5 (by decide)
    refine ⟨⟨fun j hj => ⟨(h3' j hj).1, (h3' j hj).2.1⟩, inj, h2 (by omega)⟩, h4, fun j hj => hs _ (h3' j hj).2.1, fun i j hij hj => ?_⟩
    cases hA : ahB g (c j % 16) (c i % 16) with
    | false => rfl
    | true =>
      have := (h3' i (by omega)).2.2.2 _ (h3' j hj).2.1 hA
      rcases (dsT_bit 0 (fun k => c k % 16) i (c j % 16)).mp this with z | ⟨k, k1, k2⟩
      · simp at z
      · exact absurd k2 (inj k j (by omega) hj)
  · rintro ⟨⟨v1, v2, v3⟩, g1, g2, g3⟩
    refine ⟨by omega, fun _ => v3, fun k hk => ?_, g1⟩
    rw [Nat.zero_add] at hk ⊢
    refine ⟨(v1 k hk).1, (v1 k hk).2, ?_, fun q hq hA => ?_⟩
    · cases hb : (dsT 0 (fun k => c k % 16) k).testBit (c k % 16) with
      | false => rfl
      | true =>
        rcases (dsT_bit 0 (fun k => c k % 16) k (c k % 16)).mp hb with z | ⟨k', k1, k2⟩
        · simp at z
        · exact absurd k2 (v2 k' k k1 hk)
    · obtain ⟨j, j1, j2⟩ := fb_onto (n := pls g) (f := fun j => c j % 16) (fun j hj => (v1 j hj).2) v2 hq
      have j2 : c j % 16 = q := j2
      refine (dsT_bit 0 (fun k => c k % 16) k q).mpr (Or.inr ⟨j, ?_, j2⟩)
      rcases Nat.lt_trichotomy j k with z | z | z
      · exact z
      · subst z
        rw [← j2, ah_irr hp] at hA
        exact absurd hA (by decide)
      · have := g3 k j z j1
        rw [j2, hA] at this
        exact absurd this (by decide)
