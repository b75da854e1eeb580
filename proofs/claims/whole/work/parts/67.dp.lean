/-! The table of best rests. -/
def LXs (n i : Nat) (c c' : Nat → Nat) : Prop := ∃ j, i ≤ j ∧ j ≤ n ∧ (∀ j', i ≤ j' → j' < j → c j' = c' j') ∧ (j = n ∨ c j < c' j)
def OPT (g : GS) (D i q v : Nat) (c : Nat → Nat) : Prop := SG g D i c ∧ v = cst g c i q ∧ ∀ c', SG g D i c' → v < cst g c' i q ∨ (v = cst g c' i q ∧ LXs (pls g) i c c')
def kd (t : Nat → Nat) (m k : Nat) : Nat := if k < m then t k else 7
def ky (t : Nat → Nat) (m : Nat) : Nat := kd t m 0 * 512 + kd t m 1 * 64 + kd t m 2 * 8 + kd t m 3
theorem kd_lt {t : Nat → Nat} {m : Nat} (h : ∀ k, k < m → t k < 7) (k : Nat) : kd t m k ≤ 7 := by
  unfold kd
  split
  · next c => have := h k c; omega
  · omega
theorem ky_lt {t : Nat → Nat} {m : Nat} (h : ∀ k, k < m → t k < 7) : ky t m < 4096 := by
  have := kd_lt h 0
  have := kd_lt h 1
  have := kd_lt h 2
  have := kd_lt h 3
  unfold ky
  omega
theorem ky_cmp {t t' : Nat → Nat} {m m' : Nat} (h : ∀ k, k < m → t k < 7) (h' : ∀ k, k < m' → t' k < 7) (hl : ky t m ≤ ky t' m') : (∃ k, k < 4 ∧ (∀ j, j < k → kd t m j = kd t' m' j) ∧ kd t m k < kd t' m' k) ∨ ∀ k, k < 4 → kd t m k = kd t' m' k := by
  have a0 := kd_lt h 0
  have a1 := kd_lt h 1
  have a2 := kd_lt h 2
  have a3 := kd_lt h 3
  have b0 := kd_lt h' 0
  have b1 := kd_lt h' 1
  have b2' := kd_lt h' 2
  have b3 := kd_lt h' 3
  unfold ky at hl
  by_cases e0 : kd t m 0 = kd t' m' 0
  · by_cases e1 : kd t m 1 = kd t' m' 1
    · by_cases e2 : kd t m 2 = kd t' m' 2
      · by_cases e3 : kd t m 3 = kd t' m' 3
        · right
          intro k hk
          rcases (show k = 0 ∨ k = 1 ∨ k = 2 ∨ k = 3 by omega) with z | z | z | z <;> rw [z] <;> assumption
        · refine Or.inl ⟨3, by omega, fun j hj => ?_, by omega⟩
          rcases (show j = 0 ∨ j = 1 ∨ j = 2 by omega) with z | z | z <;> rw [z] <;> assumption
      · refine Or.inl ⟨2, by omega, fun j hj => ?_, by omega⟩
        rcases (show j = 0 ∨ j = 1 by omega) with z | z <;> rw [z] <;> assumption
    · refine Or.inl ⟨1, by omega, fun j hj => ?_, by omega⟩
      rw [show j = 0 by omega]
      exact e0
  · exact Or.inl ⟨0, by omega, fun j hj => by omega, by omega⟩
theorem kd_same {t t' : Nat → Nat} {m m' : Nat} (hm : m ≤ 4) (hm' : m' ≤ 4) (h : ∀ k, k < m → t k < 7) (h' : ∀ k, k < m' → t' k < 7) (e : ∀ k, k < 4 → kd t m k = kd t' m' k) : m = m' ∧ ∀ k, k < m → t k = t' k := by
  have hmm : m = m' := by
    apply Classical.byContradiction
    intro hn
    rcases Nat.lt_or_gt_of_ne hn with q | q
    · have := e m (by omega)
      unfold kd at this
      rw [if_neg (by omega), if_pos q] at this
      have := h' m q
      omega
    · have := e m' (by omega)
      unfold kd at this
      rw [if_pos q, if_neg (by omega)] at this
      have := h m' q
      omega
  subst hmm
  refine ⟨rfl, fun k hk => ?_⟩
  have := e k (by omega)
  unfold kd at this
  rw [if_pos hk, if_pos hk] at this
  exact this
def qv (g : GS) (D q : Nat) : Prop := (D = 0 ∧ q = 7) ∨ (q < pls g ∧ D.testBit q = true)
def RT (g : GS) (R : Nat → Nat) (D : Nat) : Prop := ∀ q, qv g D q → ∃ c, OPT g D (pc D 10) q (R (8 * D + q) / 4096) c ∧ (D ≠ 2 ^ pls g - 1 → R (8 * D + q) % 4096 = ky (fun k => c (pc D 10 + k) % 16) (enT (gC g c) (pc D 10) - pc D 10))
def KV (g : GS) (R : Nat → Nat) (D q : Nat) (t : Nat → Nat) (m : Nat) : Nat := (tcF g (hdN g q).1 (hdN g q).2.1 (hdN g q).2.2 t m + R (8 * dsT D t m + t (m - 1)) / 4096) * 4096 + ky t m
theorem TV_facts {g : GS} {D m : Nat} {t : Nat → Nat} (hp : pls g ≤ 7) (hD : D < 2 ^ pls g) (h : TV g D t m) : dsT D t m < 2 ^ pls g ∧ pc (dsT D t m) 10 = pc D 10 + m ∧ pc D 10 + m ≤ pls g ∧ qv g (dsT D t m) (t (m - 1)) ∧ ∀ k, k < m → t k < 7 := by
  obtain ⟨h1, h2, h3⟩ := h
  have a1 : dsT D t m < 2 ^ pls g := dsT_lt hD m (fun k hk => (h3 k hk).1)
  have a2 : pc (dsT D t m) 10 = pc D 10 + m := dsT_pc m (fun k hk => ⟨by have := (h3 k hk).1; omega, (h3 k hk).2.1⟩)
  have h128 : (2 : Nat) ^ pls g ≤ 2 ^ 7 := Nat.pow_le_pow_right (by omega) hp
  have a3 := (pc_full (pls g) (by omega) (dsT D t m) (by omega) a1).1
  refine ⟨a1, a2, by omega, Or.inr ⟨(h3 (m - 1) (by omega)).1, (dsT_bit D t m _).mpr (Or.inr ⟨m - 1, by omega, rfl⟩)⟩, fun k hk => by have := (h3 k hk).1; omega⟩
/-- one set more -/
theorem dp_step {g : GS} {R R' : Nat → Nat} {D : Nat} (hp : pls g ≤ 7) (hz : nzs g ≤ 4) (hD : D < 2 ^ pls g) (hDf : D ≠ 2 ^ pls g - 1) (hR : ∀ t m, TV g D t m → RT g R (dsT D t m))
    (hS : ∀ q, qv g D q → ∃ t m, TV g D t m ∧ R' (8 * D + q) = KV g R D q t m) (hC : ∀ q, qv g D q → ∀ t m, TV g D t m → R' (8 * D + q) ≤ KV g R D q t m) : RT g R' D := by
  intro q hq
  have h128 : (2 : Nat) ^ pls g ≤ 2 ^ 7 := Nat.pow_le_pow_right (by omega) hp
  have hi : pc D 10 < pls g := by
    have := pc_full (pls g) (by omega) D (by omega) hD
    rcases Nat.lt_or_ge (pc D 10) (pls g) with z | z
    · exact z
    · exact absurd (this.2 (by omega)) hDf
  obtain ⟨t, m, hT, hv⟩ := hS q hq
  obtain ⟨f1, f2, f3, f4, f5⟩ := TV_facts hp hD hT
  obtain ⟨c2, ⟨o1, o2, o3⟩, o4⟩ := hR t m hT _ f4
  rw [f2] at o1 o2 o3 o4
  have hm4 : m ≤ 4 := by have := hT.2.1; omega
  have hk := ky_lt f5
  obtain ⟨s1, s2⟩ := SG_glue (i := pc D 10) (by omega) hT o1
  have htk : ∀ k, k < m → gl (pc D 10) t m c2 (pc D 10 + k) % 16 = t k := fun k hk' => (gl_mod hk' (by have := f5 k hk'; omega)).1
  have em : enT (gC g (gl (pc D 10) t m c2)) (pc D 10) - pc D 10 = m := by omega
  have hcost : cst g (gl (pc D 10) t m c2) (pc D 10) q = tcF g (hdN g q).1 (hdN g q).2.1 (hdN g q).2.2 t m + R (8 * dsT D t m + t (m - 1)) / 4096 := by
    rw [cst_step hi, em, s2, tcF_c (by have := hT.1; omega) htk]
    have e1 : gl (pc D 10) t m c2 (pc D 10 + m - 1) % 16 = t (m - 1) := by
      have := htk (m - 1) (by have := hT.1; omega)
      rw [show pc D 10 + (m - 1) = pc D 10 + m - 1 by have := hT.1; omega] at this
      exact this
    rw [e1, cst_cong (c := gl (pc D 10) t m c2) (c' := c2) (fun j a _ => gl_out a), ← o2]
  have hdiv : R' (8 * D + q) / 4096 = cst g (gl (pc D 10) t m c2) (pc D 10) q := by
    rw [hv, hcost]
    unfold KV
    omega
  have hmod : R' (8 * D + q) % 4096 = ky t m := by
    rw [hv]
    unfold KV
    omega
  refine ⟨gl (pc D 10) t m c2, ⟨s1, hdiv, fun c' hc' => ?_⟩, fun _ => ?_⟩
  · obtain ⟨hT', hS'⟩ := SG_split hc' hi
    obtain ⟨a1, a2, a3, a4⟩ := enT_gC (g := g) (c := c') hi
    have hle := hC q hq _ _ hT'
    obtain ⟨f1', f2', f3', f4', f5'⟩ := TV_facts hp hD hT'
    obtain ⟨c3, ⟨p1, p2, p3⟩, -⟩ := hR _ _ hT' _ f4'
    have ee : pc D 10 + (enT (gC g c') (pc D 10) - pc D 10) = enT (gC g c') (pc D 10) := by omega
    rw [f2', ee] at p1 p2 p3
    have hcs := cst_step (c := c') (q := q) hi
    have p4 := p3 c' hS'
    have el : c' (pc D 10 + (enT (gC g c') (pc D 10) - pc D 10 - 1)) % 16 = c' (enT (gC g c') (pc D 10) - 1) % 16 := by
      rw [show pc D 10 + (enT (gC g c') (pc D 10) - pc D 10 - 1) = enT (gC g c') (pc D 10) - 1 by omega]
    have hky' := ky_lt f5'
    have hm4' : enT (gC g c') (pc D 10) - pc D 10 ≤ 4 := by have := hT'.2.1; omega
    unfold KV at hle
    dsimp only at hle
    rw [el] at hle p4
    generalize hw : R (8 * dsT D (fun k => c' (pc D 10 + k) % 16) (enT (gC g c') (pc D 10) - pc D 10) + c' (enT (gC g c') (pc D 10) - 1) % 16) = w at hle
    generalize hw2 : cst g c' (enT (gC g c') (pc D 10)) (c' (enT (gC g c') (pc D 10) - 1) % 16) = w2 at hcs p4
    generalize hw3 : tcF g (hdN g q).1 (hdN g q).2.1 (hdN g q).2.2 (fun k => c' (pc D 10 + k) % 16) (enT (gC g c') (pc D 10) - pc D 10) = w3 at hle hcs
    generalize hw4 : ky (fun k => c' (pc D 10 + k) % 16) (enT (gC g c') (pc D 10) - pc D 10) = w4 at hle hky'
    have hww : w / 4096 ≤ w2 := by
      rw [hw] at p4
      rcases p4 with z | ⟨z, -⟩ <;> omega
    have hmain : R' (8 * D + q) / 4096 ≤ w3 + w / 4096 ∧ (R' (8 * D + q) / 4096 = w3 + w / 4096 → ky t m ≤ w4) := by
      rw [← hmod]
      constructor
      · omega
      · intro z; omega
    by_cases hlt : R' (8 * D + q) / 4096 < cst g c' (pc D 10) q
    · exact Or.inl hlt
    · right
      have heq : R' (8 * D + q) / 4096 = cst g c' (pc D 10) q := by omega
      refine ⟨heq, ?_⟩
      have hkl := hmain.2 (by omega)
      rw [← hw4] at hkl
      rcases ky_cmp f5 f5' hkl with ⟨k, k1, k2, k3⟩ | hsame
      · -- the first tours differ
        have kdv : ∀ j, kd t m j < 7 → j < m := fun j z => by
          apply Classical.byContradiction
          intro hn
          unfold kd at z
          rw [if_neg hn] at z
          omega
        have hk7 := kd_lt f5' k
        have hkm : k < m := kdv k (by omega)
        have hpre : ∀ j, j < k → j < enT (gC g c') (pc D 10) - pc D 10 ∧ t j = c' (pc D 10 + j) % 16 := fun j hj => by
          have e1 := k2 j hj
          have hjm : j < m := by omega
          have e2 := f5 j hjm
          have e3 : kd t m j = t j := if_pos hjm
          have e4 : j < enT (gC g c') (pc D 10) - pc D 10 := by
            apply Classical.byContradiction
            intro hn
            have : kd (fun k => c' (pc D 10 + k) % 16) (enT (gC g c') (pc D 10) - pc D 10) j = 7 := if_neg hn
            omega
          refine ⟨e4, ?_⟩
          have e5 : kd (fun k => c' (pc D 10 + k) % 16) (enT (gC g c') (pc D 10) - pc D 10) j = c' (pc D 10 + j) % 16 := if_pos e4
          omega
        have e3 : kd t m k = t k := if_pos hkm
        have g1 := gl_mod (i := pc D 10) (m := m) (t := t) (c := c2) (k := k) hkm (by have := f5 k hkm; omega)
        refine ⟨pc D 10 + k, by omega, by omega, fun j' x y => ?_, Or.inr ?_⟩
        · have g2 := gl_mod (i := pc D 10) (m := m) (t := t) (c := c2) (k := j' - pc D 10) (by omega) (by have := f5 (j' - pc D 10) (by omega); omega)
          obtain ⟨u1, u2⟩ := hpre (j' - pc D 10) (by omega)
          have ej : pc D 10 + (j' - pc D 10) = j' := by omega
          rw [ej] at g2 u2
          have g3 := (hc'.2.2.1 (j' - pc D 10) (by omega)).1
          rw [ej] at g3
          by_cases z : j' = pc D 10
          · have := hc'.2.1 hi
            rw [← z] at this
            omega
          · have := a3 j' (by omega) (by omega)
            omega
        · by_cases z : k < enT (gC g c') (pc D 10) - pc D 10
          · have e5 : kd (fun k => c' (pc D 10 + k) % 16) (enT (gC g c') (pc D 10) - pc D 10) k = c' (pc D 10 + k) % 16 := if_pos z
            by_cases z0 : k = 0
            · have := hc'.2.1 hi
              subst z0
              rw [Nat.add_zero] at *
              omega
            · omega
          · have hk0 : k = enT (gC g c') (pc D 10) - pc D 10 := by
              by_cases z0 : k = 0
              · omega
              · have := (hpre (k - 1) (by omega)).1
                omega
            have := a4 (by omega)
            rw [show enT (gC g c') (pc D 10) = pc D 10 + k by omega] at this
            have hk0 : k ≠ 0 := by omega
            have : ¬ 16 ≤ gl (pc D 10) t m c2 (pc D 10 + k) := fun y => hk0 (g1.2.2.mp y)
            omega
      · obtain ⟨mm, tt⟩ := kd_same hm4 hm4' f5 f5' hsame
        have ed : dsT D (fun k => c' (pc D 10 + k) % 16) (enT (gC g c') (pc D 10) - pc D 10) = dsT D t m := by
          rw [← mm]
          exact (dsT_cong m tt).symm
        have el2 : c' (enT (gC g c') (pc D 10) - 1) % 16 = t (m - 1) := by
          rw [tt (m - 1) (by have := hT.1; omega), ← el, mm]
        have ee2 : enT (gC g c') (pc D 10) = pc D 10 + m := by omega
        rw [ed, ee2] at hS'
        rw [el2, ee2] at hw2
        rw [ed, el2] at hw
        have fin := o3 c' hS'
        rw [hw2, hw] at fin
        rcases fin with z | ⟨z, j, j1, j2, j3, j4⟩
        · rw [hw] at hcost
          rw [hdiv, hcost] at heq
          have hw3' : w3 = tcF g (hdN g q).1 (hdN g q).2.1 (hdN g q).2.2 t m := by
            rw [← hw3, ← mm]
            exact tcF_c (by have := hT.1; omega) (fun k hk' => (tt k hk').symm)
          omega
        · refine ⟨j, by omega, j2, fun j' x y => ?_, ?_⟩
          · by_cases u : pc D 10 + m ≤ j'
            · rw [gl_out u]; exact j3 j' u y
            · have g2 := gl_mod (i := pc D 10) (m := m) (t := t) (c := c2) (k := j' - pc D 10) (by omega) (by have := f5 (j' - pc D 10) (by omega); omega)
              have u2 := tt (j' - pc D 10) (by omega)
              have ej : pc D 10 + (j' - pc D 10) = j' := by omega
              rw [ej] at g2 u2
              have g3 := (hc'.2.2.1 (j' - pc D 10) (by omega)).1
              rw [ej] at g3
              by_cases z : j' = pc D 10
              · have := hc'.2.1 hi
                rw [← z] at this
                omega
              · have := a3 j' (by omega) (by omega)
                omega
          · rcases j4 with j4 | j4
            · exact Or.inl j4
            · exact Or.inr (by rw [gl_out j1]; exact j4)
  · rw [hmod, em]
    unfold ky kd
    have e : ∀ k, (if k < m then t k else 7) = (if k < m then gl (pc D 10) t m c2 (pc D 10 + k) % 16 else 7) := fun k => by
      split
      · next z => exact (htk k z).symm
      · rfl
    rw [e 0, e 1, e 2, e 3]
