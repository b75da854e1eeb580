/-! The desk's finder: find. -/
theorem RT_full {g : GS} {R : Nat → Nat} (hp7 : pls g ≤ 7) (h : ∀ q, q < 8 → R (8 * (2 ^ pls g - 1) + q) = 0) : RT g R (2 ^ pls g - 1) := by
  intro q hq
  have hq8 : q < 8 := by
    rcases hq with ⟨-, z⟩ | ⟨z, -⟩ <;> omega
  have hpc := pc_fullN (pls g) (by omega)
  rw [hpc, h q hq8]
  refine ⟨fun _ => 0, ⟨⟨Nat.le_refl _, fun z => by omega, fun k hk => by omega, ?_⟩, ?_, fun c' _ => Or.inr ⟨?_, pls g, Nat.le_refl _, Nat.le_refl _, fun j' a b => by omega, Or.inl rfl⟩⟩, fun z => absurd rfl z⟩
  · rw [Nat.sub_self]; rfl
  · rw [cst_end]
  · rw [cst_end]
theorem RT_cong {g : GS} {R R' : Nat → Nat} {D : Nat} (hp7 : pls g ≤ 7) (h : RT g R D) (e : ∀ j, j / 8 = D → R' j = R j) : RT g R' D := by
  intro q hq
  have hq8 : q < 8 := by
    rcases hq with ⟨-, z⟩ | ⟨z, -⟩ <;> omega
  rw [e (8 * D + q) (by omega)]
  exact h q hq
def BD (g : GS) (R : Nat → Nat) (D : Nat) : Prop := ∀ q, qv g D q → R (8 * D + q) / 4096 ≤ 2000 * (pls g - pc D 10)
theorem BD_cong {g : GS} {R R' : Nat → Nat} {D : Nat} (hp7 : pls g ≤ 7) (h : BD g R D) (e : ∀ j, j / 8 = D → R' j = R j) : BD g R' D := by
  intro q hq
  have hq8 : q < 8 := by
    rcases hq with ⟨-, z⟩ | ⟨z, -⟩ <;> omega
  rw [e (8 * D + q) (by omega)]
  exact h q hq
theorem rc_tour {g : GS} {D m : Nat} {t : Nat → Nat} (h : rcB g D) (hT : TV g D t m) : rcB g (dsT D t m) := by
  intro p hp hb q hq hA
  rcases (dsT_bit D t m p).mp hb with z | ⟨k, k1, k2⟩
  · exact (dsT_bit D t m q).mpr (Or.inl (h p hp z q hq hA))
  · have := (hT.2.2 k k1).2.2.1 q hq (by rw [k2]; exact hA)
    rcases (dsT_bit D t k q).mp this with y | ⟨j, j1, j2⟩
    · exact (dsT_bit D t m q).mpr (Or.inl y)
    · exact (dsT_bit D t m q).mpr (Or.inr ⟨j, by omega, j2⟩)
theorem tour_ex {g : GS} {D : Nat} (hz1 : 1 ≤ nzs g) (hRg : ¬ Rg (pls g) (ahB g)) (hD : D < 2 ^ pls g) (hDf : D ≠ 2 ^ pls g - 1) : ∃ t m, TV g D t m := by
  apply Classical.byContradiction
  intro hn
  apply hRg
  refine ⟨fun x => !D.testBit x, ?_, fun x hx hS => ?_⟩
  · apply Classical.byContradiction
    intro hno
    apply hDf
    apply Nat.eq_of_testBit_eq
    intro i
    rw [Nat.testBit_two_pow_sub_one]
    by_cases hi : i < pls g
    · rw [decide_eq_true hi]
      cases hb : D.testBit i with
      | true => rfl
      | false => exact absurd ⟨i, hi, by show (!D.testBit i) = true; rw [hb]; rfl⟩ hno
    · rw [decide_eq_false hi]
      exact Nat.testBit_lt_two_pow (Nat.lt_of_lt_of_le hD (Nat.pow_le_pow_right (by omega) (by omega)))
  · have hS : D.testBit x = false := by simpa using hS
    apply Classical.byContradiction
    intro hno
    apply hn
    refine ⟨fun _ => x, 1, by omega, hz1, fun k hk => ?_⟩
    have : k = 0 := by omega
    subst this
    refine ⟨hx, hS, fun q hq hA => ?_, fun z => by omega⟩
    show D.testBit q = true
    cases hb : D.testBit q with
    | true => rfl
    | false => exact absurd ⟨q, hq, by show (!D.testBit q) = true; rw [hb]; rfl, hA⟩ hno
section FF
variable {E : Env0} {d : Nat} {M : Mem} {Q : Int32 → Mem → Prop} {g : GS}
/-- the sets, from the last to the first -/
theorem f_find_113 (hW : Wk g) (hp7 : pls g ≤ 7) (hRg : ¬ Rg (pls g) (ahB g)) (kk : ∀ R M', sO 25 M M' → TB R M' → (∀ D, D < 2 ^ pls g → rcB g D → RT g R D) → R 7 / 4096 ≤ 14000 → Q (nI (R 7 / 4096)) M') (hD : DC g M) (hF : FM g M) : ∀ (l : Nat) (R : Nat → Nat) (M1 : Mem), l ≤ 2 ^ pls g - 1 → sO 25 M M1 → TB R M1 → (∀ j, j / 8 < l → R j = 2147483647) → (∀ D, l ≤ D → D < 2 ^ pls g → rcB g D → RT g R D ∧ BD g R D) → JE E (d + 8) n_F_find 113 [some (.inr 20), some (.inl (nI l - 1))] [] M1 Q := by
  have h128 : (2 : Nat) ^ pls g ≤ 2 ^ 7 := Nat.pow_le_pow_right (by omega) hp7
  have h0 := Nat.two_pow_pos (pls g)
  have hz1 : 1 ≤ nzs g := hW.2.2.2.2.2.2.1.1
  have hz4 : nzs g ≤ 4 := hW.2.2.2.2.2.2.1.2
  intro l
  induction l with
  | zero =>
    intro R M1 _ s1 hB hmax hdone
    have hrc0 : rcB g 0 := fun p _ z => by simp at z
    refine b_F_find_113 _ ⟨fun _ => ⟨vp_in_nI (n := 7) (by omega) (by omega), ?_⟩, fun z => absurd (by decide) z⟩
    obtain ⟨b1, b2'⟩ := hB 7 (by omega)
    have e7 : M1 25 (Int32.toNatClampNeg 7) >>> ((12 : Int32) &&& 31) = nI (R 7 / 4096) := by
      rw [show Int32.toNatClampNeg 7 = 7 from rfl, b1, pk_shrN b2' _ 12 (by decide), show (2 : Nat) ^ 12 = 4096 by decide]
    rw [e7]
    have := (hdone 0 (by omega) h0 hrc0).2 7 (Or.inl ⟨rfl, rfl⟩)
    rw [Nat.mul_zero, Nat.zero_add] at this
    exact kk R M1 s1 hB (fun D hD' hr => (hdone D (by omega) hD' hr).1) (by omega)
  | succ l ih =>
    intro R M1 hl s1 hB hmax hdone
    have hD1 : DC g M1 := hD.sO (by omega) s1
    rw [nI_sub1]
    refine b_F_find_113 _ ⟨fun z => absurd z (nI_pos (by omega)), fun _ => c_F_isReachable hD1 (by omega) (by omega) (fun o ho => ⟨fun c1 => ?_, fun c1 => ?_⟩)⟩
    · rw [b2_z] at c1
      rw [← Int32.sub_eq_add_neg]
      refine ih R M1 (by omega) s1 hB (fun j hj => hmax j (by omega)) (fun D' a b c => ?_)
      by_cases e : D' = l
      · subst e
        have := ho.mpr c
        rw [this] at c1
        exact absurd c1 (by decide)
      · exact hdone D' (by omega) b c
    · rw [b2_nz] at c1
      have hrc := ho.mp c1
      have hln : l < 2 ^ pls g := by omega
      have hbig : ∀ t m, TV g l t m → l + 1 ≤ dsT l t m ∧ dsT l t m < 2 ^ pls g ∧ rcB g (dsT l t m) := fun t m hT => by
        obtain ⟨f1, f2, f3, f4, f5⟩ := TV_facts hp7 hln hT
        refine ⟨?_, f1, rc_tour hrc hT⟩
        have h1 : l ≤ dsT l t m := by rw [dsT_or]; exact Nat.left_le_or
        have h2 : dsT l t m ≠ l := fun e => by
          have := hT.1
          rw [e] at f2
          omega
        omega
      have hb : ∀ t m, TV g l t m → R (8 * dsT l t m + t (m - 1)) / 4096 ≤ 2000 * (pls g - (pc l 10 + m)) := fun t m hT => by
        obtain ⟨f1, f2, f3, f4, f5⟩ := TV_facts hp7 hln hT
        obtain ⟨a, b, c⟩ := hbig t m hT
        have := (hdone _ a b c).2 _ f4
        rw [f2] at this
        exact this
      refine c_F_tryTours (R := R) (R0 := R) hW hp7 hln (fun t m hT => by have := hb t m hT; omega) hD1 (hF.fr s1) hB ⟨fun _ _ => rfl, fun q hq => Or.inl (hmax _ (by
        have hq8 : q < 8 := by
          rcases hq with ⟨-, z⟩ | ⟨z, -⟩ <;> omega
        omega))⟩ (fun R2 M2 s2 hB2 hS2 hcov => ?_)
      rw [← Int32.sub_eq_add_neg]
      have hsnd : ∀ q, qv g l q → ∃ t m, TV g l t m ∧ R2 (8 * l + q) = KV g R l q t m := fun q hq => by
        rcases hS2.2 q hq with z | z
        · obtain ⟨t, m, hT⟩ := tour_ex hz1 hRg hln (by omega)
          have h1 := hcov t m hT q hq
          have h2 := tcF_le hW hp7 hT hq
          have h3 := hb t m hT
          have h4 := ky_lt (TV_facts hp7 hln hT).2.2.2.2
          rw [z] at h1
          unfold KV at h1
          generalize tcF g (hdN g q).1 (hdN g q).2.1 (hdN g q).2.2 t m = u at h1 h2
          generalize R (8 * dsT l t m + t (m - 1)) / 4096 = v at h1 h3
          have h5 : (u + v) * 4096 ≤ 16000 * 4096 := Nat.mul_le_mul_right 4096 (by omega)
          omega
        · exact z
      refine ih R2 M2 (by omega) (s1.tr s2) hB2 (fun j hj => by rw [hS2.1 j (by omega)]; exact hmax j (by omega)) (fun D' a b c => ?_)
      by_cases e : D' = l
      · subst e
        refine ⟨dp_step hp7 hz4 hln (by omega) (fun t m hT => ?_) hsnd (fun q hq t m hT => hcov t m hT q hq), fun q hq => ?_⟩
        · obtain ⟨x1, x2, x3⟩ := hbig t m hT
          exact (hdone _ x1 x2 x3).1
        · obtain ⟨t, m, hT, hv⟩ := hsnd q hq
          have h2 := tcF_le hW hp7 hT hq
          have h3 := hb t m hT
          obtain ⟨f1, f2, f3, f4, f5⟩ := TV_facts hp7 hln hT
          have h4 := ky_lt f5
          have h6 := hT.1
          rw [hv]
          unfold KV
          omega
      · obtain ⟨x, y⟩ := hdone D' (by omega) b c
        exact ⟨RT_cong hp7 x (fun j hj => hS2.1 j (by omega)), BD_cong hp7 y (fun j hj => hS2.1 j (by omega))⟩
theorem c_F_find (hD : DC g M) (hW : Wk g) (hRg : ¬ Rg (pls g) (ahB g))
    (k0 : ∀ M', (pls g = 0 ∨ 7 < pls g ∨ ∃ p, p < pls g ∧ slO g (g 38 p) = 8) → (∀ k', k' < 20 ∨ 25 < k' → M' k' = M k') → Q (-1) M')
    (k1 : ∀ R M', 1 ≤ pls g → pls g ≤ 7 → (∀ p, p < pls g → slO g (g 38 p) < 8) → (∀ k', k' < 20 ∨ 25 < k' → M' k' = M k') → M' 20 3 = nI (2 ^ pls g - 1) → TB R M' → (∀ D, D < 2 ^ pls g → rcB g D → RT g R D) → R 7 / 4096 ≤ 14000 → Q (nI (R 7 / 4096)) M') : CE E (d + 8) n_F_find [.inr 20] M Q := by
  have hp10 := hW.1
  have h4 : M 1 4 = nI (pls g) := hD.2.1.1
  refine CE_of rfl (b_F_find_0 ⟨fun c1 => ?_, fun c1 => ⟨fun c2 => ?_, fun c2 => ?_⟩⟩)
  · rw [h4, one_nI, nI_ltI (by omega) (by omega)] at c1
    exact k0 M (Or.inl (by omega)) (fun _ _ => rfl)
  · rw [h4, show (7 : Int32) = nI 7 from rfl, nI_ltI (by omega) (by omega)] at c2
    exact k0 M (Or.inr (Or.inl c2)) (fun _ _ => rfl)
  · rw [h4, one_nI, nI_ltI (by omega) (by omega)] at c1
    rw [h4, show (7 : Int32) = nI 7 from rfl, nI_ltI (by omega) (by omega)] at c2
    have hp7 : pls g ≤ 7 := by omega
    have h128 : (2 : Nat) ^ pls g ≤ 2 ^ 7 := Nat.pow_le_pow_right (by omega) hp7
    have h2n : 2 ≤ 2 ^ pls g := by
      have := Nat.pow_le_pow_right (n := 2) (by omega) (show 1 ≤ pls g by omega)
      omega
    refine c_F_findSlots hD hW hp7 (fun M1 hsl s1 h21 => ⟨fun _ => ?_, fun z => absurd z (by decide)⟩) (fun M1 p hp hs s1 => ⟨fun z => absurd rfl z, fun _ => k0 M1 (Or.inr (Or.inr ⟨p, hp, hs⟩)) (fun k' hk' => s1 k' (by omega))⟩)
    have e3 : (1 : Int32) <<< ((M1 1 4) &&& 31) - 1 = nI (2 ^ pls g - 1) := by
      rw [s1 1 (by omega), h4, one_shl _ (by omega), show 2 ^ pls g = (2 ^ pls g - 1) + 1 by omega, nI_sub1]
      rfl
    rw [e3]
    have hD2 : DC g (mset M1 20 3 (nI (2 ^ pls g - 1))) := (hD.sO (by omega) s1).sO (by omega) (sO.set 20 _ _)
    have h21' : ∀ p, p < pls g → mset M1 20 3 (nI (2 ^ pls g - 1)) 21 p = nI (sxP g p) := fun p hp => by rw [mset_ne _ _ _ (by omega)]; exact h21 p hp
    have h20 : mset M1 20 3 (nI (2 ^ pls g - 1)) 20 3 = nI (2 ^ pls g - 1) := by rw [mset_eq]; exact if_pos rfl
    have hfr : ∀ k', k' < 20 ∨ 25 < k' → mset M1 20 3 (nI (2 ^ pls g - 1)) k' = M k' := fun k' hk' => by rw [mset_ne _ _ _ (by omega)]; exact s1 k' (by omega)
    generalize mset M1 20 3 (nI (2 ^ pls g - 1)) = M2 at hD2 h21' h20 hfr
    -- all sets are measured
    have key : ∀ (l T : Nat) (M3 : Mem), T + l = 2 ^ pls g → 1 ≤ T → (∀ k', k' ≠ 22 → k' ≠ 23 → k' ≠ 24 → M3 k' = M2 k') → (∀ T', 1 ≤ T' → T' < T → M3 23 T' = nI (enS g T' (pls g)) ∧ M3 24 T' = nI (lvS g T' (pls g)) ∧ M3 22 T' = nI (lvS g T' (pls g)) - nI (enS g T' (pls g)) + nI (fnS g T' (pls g) * g 31 14) + nI (pc T' 10 * (g 31 12 + g 31 13))) → JE E (d + 8) n_F_find 49 [some (.inr 20), some (.inl (nI T))] [] M3 Q := by
      intro l
      induction l with
      | zero =>
        intro T M3 hT hT1 e1 hms
        have e20 : M3 20 3 = nI (2 ^ pls g - 1) := by rw [e1 20 (by omega) (by omega) (by omega)]; exact h20
        have hD3 : DC g M3 := hD2.fr (fun k' a b => e1 k' (by omega) (by omega) (by omega))
        refine b_F_find_49 _ ⟨fun _ => c_JA_fill_25 (fun M4 s4 h4' => ?_), fun z => absurd (by rw [e20]; exact nI_lt (by omega) (by omega)) z⟩
        -- the last set costs nothing
        have zero : ∀ (l x : Nat) (M5 : Mem), x + l = 8 → sO 25 M3 M5 → (∀ j, j < 1024 → M5 25 j = nI (if 8 * (2 ^ pls g - 1) ≤ j ∧ j < 8 * (2 ^ pls g - 1) + x then 0 else 2147483647)) → JE E (d + 8) n_F_find 79 [some (.inr 20), some (.inl (nI x))] [] M5 Q := by
          intro l
          induction l with
          | zero =>
            intro x M5 hx s5 h5
            have e20' : M5 20 3 = nI (2 ^ pls g - 1) := by rw [s5 20 (by omega)]; exact e20
            refine b_F_find_79 _ ⟨fun _ => ?_, fun z => absurd (nI_le (a := 8) (by omega) (by omega)) z⟩
            rw [e20']
            have hD5 : DC g M5 := hD3.sO (by omega) s5
            have hF5 : FM g M5 := by
              refine ⟨e20', fun T' a b => ?_⟩
              rw [s5 22 (by omega), s5 23 (by omega), s5 24 (by omega)]
              exact hms T' a (by omega)
            refine f_find_113 (M := M5) hW hp7 hRg (fun R M6 s6 hB6 hRT h7 => k1 R M6 (by omega) hp7 hsl (fun k' hk' => ?_) ?_ hB6 hRT h7) hD5 hF5 (2 ^ pls g - 1) (fun j => if 8 * (2 ^ pls g - 1) ≤ j ∧ j < 8 * (2 ^ pls g - 1) + x then 0 else 2147483647) M5 (by omega) sO.rf (fun j hj => ⟨h5 j hj, by show (if _ then 0 else 2147483647) < 2147483648; split <;> omega⟩) (fun j hj => if_neg (by omega)) (fun D' a b c => ?_)
            · rw [s6 k' (by omega), s5 k' (by omega), e1 k' (by omega) (by omega) (by omega)]
              exact hfr k' hk'
            · rw [s6 20 (by omega)]; exact e20'
            · have hDf : D' = 2 ^ pls g - 1 := by omega
              subst hDf
              refine ⟨RT_full hp7 (fun q hq => if_pos (by omega)), fun q hq => ?_⟩
              have hq8 : q < 8 := by
                rcases hq with ⟨-, z⟩ | ⟨z, -⟩ <;> omega
              have : (if 8 * (2 ^ pls g - 1) ≤ 8 * (2 ^ pls g - 1) + q ∧ 8 * (2 ^ pls g - 1) + q < 8 * (2 ^ pls g - 1) + x then 0 else 2147483647) = 0 := if_pos (by omega)
              show (if _ then 0 else 2147483647) / 4096 ≤ _
              rw [this]
              omega
          | succ l ihl =>
            intro x M5 hx s5 h5
            have e20' : M5 20 3 = nI (2 ^ pls g - 1) := by rw [s5 20 (by omega)]; exact e20
            have eix : M5 20 3 * 8 + nI x = nI (8 * (2 ^ pls g - 1) + x) := by
              rw [e20', show (8 : Int32) = nI 8 from rfl, pk_mul, nI_add, Nat.mul_comm]
            refine b_F_find_79 _ ⟨fun z => absurd z (nI_ge (b := 8) (by omega) (by omega)), fun _ => ?_⟩
            rw [eix, nI_clamp (by omega), nI_1]
            refine ⟨vp_in_nI (by omega) (by omega), ihl (x + 1) _ (by omega) (s5.tr (sO.set 25 _ _)) (fun j hj => ?_)⟩
            rw [mset_eq]
            unfold upd
            by_cases e : j = 8 * (2 ^ pls g - 1) + x
            · rw [if_pos e, if_pos (by omega)]; rfl
            · rw [if_neg e, h5 j hj]
              by_cases y : 8 * (2 ^ pls g - 1) ≤ j ∧ j < 8 * (2 ^ pls g - 1) + x
              · rw [if_pos y, if_pos (by omega)]
              · rw [if_neg y, if_neg (by omega)]
        refine zero 8 0 M4 (by omega) s4 (fun j hj => ?_)
        rw [h4' j hj, if_neg (by omega)]
        rfl
      | succ l ihl =>
        intro T M3 hT hT1 e1 hms
        have e20 : M3 20 3 = nI (2 ^ pls g - 1) := by rw [e1 20 (by omega) (by omega) (by omega)]; exact h20
        have hD3 : DC g M3 := hD2.fr (fun k' a b => e1 k' (by omega) (by omega) (by omega))
        refine b_F_find_49 _ ⟨fun z => absurd z (by rw [e20]; exact nI_nlt (by omega) (by omega)), fun _ => ?_⟩
        rw [nI_1]
        refine c_F_measure hD3 hW hp7 (by omega) (fun p hp => by rw [e1 21 (by omega) (by omega) (by omega)]; exact h21' p hp) (fun M4 f1 f2 f3 f4 f5 => ?_)
        refine ihl (T + 1) M4 (by omega) (by omega) (fun k' a b c => by rw [f1 k' a b c]; exact e1 k' a b c) (fun T' a b => ?_)
        by_cases e : T' = T
        · subst e
          exact ⟨f3, f4, f5⟩
        · obtain ⟨u1, u2, u3⟩ := f2 T' e
          rw [u1, u2, u3]
          exact hms T' a (by omega)
    exact key (2 ^ pls g - 1) 1 M2 (by omega) (by omega) (fun _ _ _ _ => rfl) (fun T' a b => by omega)
end FF
