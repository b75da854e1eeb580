/-! The desk's finder: all tours from a set. -/
def ST (g : GS) (D : Nat) (R0 R : Nat → Nat) : Prop := (∀ j, j / 8 ≠ D → R j = R0 j) ∧ ∀ q, qv g D q → R (8 * D + q) = 2147483647 ∨ ∃ t m, TV g D t m ∧ R (8 * D + q) = KV g R0 D q t m
theorem ky_c {t t' : Nat → Nat} {m : Nat} (h : ∀ k, k < m → t k = t' k) : ky t m = ky t' m := by
  have e : ∀ k, kd t m k = kd t' m k := fun k => by
    unfold kd
    split
    · next z => exact h k z
    · rfl
  unfold ky
  rw [e, e, e, e]
theorem KV_c {g : GS} {R : Nat → Nat} {D q m : Nat} {t t' : Nat → Nat} (hm : 1 ≤ m) (h : ∀ k, k < m → t k = t' k) : KV g R D q t m = KV g R D q t' m := by
  unfold KV
  rw [tcF_c hm h, dsT_cong m h, h (m - 1) (by omega), ky_c h]
section FE
variable {E : Env0} {d : Nat} {g : GS} {D : Nat} {R0 : Nat → Nat}
/-- a tour, and all that is longer is done -/
theorem ext_weigh {Q : Int32 → Mem → Prop} {k : Nat} {t R R1 : Nat → Nat} {M M1 : Mem} (hW : Wk g) (hp7 : pls g ≤ 7) (hDn : D < 2 ^ pls g) (hb : ∀ t m, TV g D t m → R0 (8 * dsT D t m + t (m - 1)) / 4096 ≤ 14000) (hD : DC g M1) (hF : FM g M1) (hT : TV g D t k) (s1 : sO 25 M M1) (hTB : TB R1 M1) (hS : ST g D R0 R1) (hmo : ∀ q, qv g D q → R1 (8 * D + q) ≤ R (8 * D + q)) (hcov : ∀ t' m', TV g D t' m' → k < m' → (∀ a, a < k → t' a = t a) → ∀ q, qv g D q → R1 (8 * D + q) ≤ KV g R0 D q t' m')
    (kk : ∀ R' M', sO 25 M M' → TB R' M' → ST g D R0 R' → (∀ q, qv g D q → R' (8 * D + q) ≤ R (8 * D + q)) → (∀ t' m', TV g D t' m' → k ≤ m' → (∀ a, a < k → t' a = t a) → ∀ q, qv g D q → R' (8 * D + q) ≤ KV g R0 D q t' m') → Q 0 M') : CE E (d + 2) n_F_weigh [.inr 20, .inl (nI D), .inl (nI (dsT 0 t k)), .inl (nI (t (k - 1))), .inl (nI (isF g t k)), .inl (nI (ky t k))] M1 (fun _ M' => Q 0 M') := by
  refine c_F_weigh (R := R1) (R0 := R0) hD hW hp7 hF hDn hT hTB hS.1 (hb t k hT) (fun R' M' s' hB' ho hin => ?_)
  have hle : ∀ q, qv g D q → R' (8 * D + q) ≤ R1 (8 * D + q) ∧ R' (8 * D + q) ≤ KV g R0 D q t k := fun q hq => by
    rw [hin q hq]
    split <;> omega
  refine kk R' M' (s1.tr s') hB' ⟨fun j hj => (ho j hj).trans (hS.1 j hj), fun q hq => ?_⟩ (fun q hq => Nat.le_trans (hle q hq).1 (hmo q hq)) (fun t' m' hT' hm' hpre q hq => ?_)
  · rw [hin q hq]
    split
    · exact Or.inr ⟨t, k, hT, rfl⟩
    · exact hS.2 q hq
  · by_cases e : m' = k
    · subst e
      rw [KV_c hT'.1 hpre]
      exact (hle q hq).2
    · exact Nat.le_trans (hle q hq).1 (hcov t' m' hT' (by omega) hpre q hq)
theorem c_F_extend (hW : Wk g) (hp7 : pls g ≤ 7) (hDn : D < 2 ^ pls g) (hb : ∀ t m, TV g D t m → R0 (8 * dsT D t m + t (m - 1)) / 4096 ≤ 14000) : ∀ (r k : Nat) (t R : Nat → Nat) (M : Mem) (Q : Int32 → Mem → Prop), k + r = 4 → DC g M → FM g M → TV g D t k → TB R M → ST g D R0 R → (∀ R' M', sO 25 M M' → TB R' M' → ST g D R0 R' → (∀ q, qv g D q → R' (8 * D + q) ≤ R (8 * D + q)) → (∀ t' m', TV g D t' m' → k ≤ m' → (∀ a, a < k → t' a = t a) → ∀ q, qv g D q → R' (8 * D + q) ≤ KV g R0 D q t' m') → Q 0 M') → CE E (d + r + 3) n_F_extend [.inr 20, .inl (nI D), .inl (nI (dsT 0 t k)), .inl (nI (t (k - 1))), .inl (nI (isF g t k)), .inl (nI (ky t k)), .inl (nI k)] M Q := by
  have hz4 : nzs g ≤ 4 := hW.2.2.2.2.2.2.1.2
  have h128 : (2 : Nat) ^ pls g ≤ 2 ^ 7 := Nat.pow_le_pow_right (by omega) hp7
  intro r
  induction r with
  | zero =>
    intro k t R M Q hk hD hF hT hTB hS kk
    have hcov : ∀ t' m', TV g D t' m' → k < m' → (∀ a, a < k → t' a = t a) → ∀ q, qv g D q → R (8 * D + q) ≤ KV g R0 D q t' m' := fun t' m' hT' hm' => by
      have := hT'.2.1
      omega
    refine CE_of rfl (b_F_extend_0 _ _ _ _ _ _ ⟨fun _ => ?_, fun _ => ⟨fun _ => ?_, fun z => absurd (nI_le (a := 4) (by omega) (by omega)) z⟩⟩)
    · exact ext_weigh hW hp7 hDn hb hD hF hT sO.rf hTB hS (fun _ _ => Nat.le_refl _) hcov kk
    · exact ext_weigh hW hp7 hDn hb hD hF hT sO.rf hTB hS (fun _ _ => Nat.le_refl _) hcov kk
  | succ r ih =>
    intro k t R M Q hk hD hF hT hTB hS kk
    have hk1 := hT.1
    have e0 : M 14 0 = nI (nzs g) := hD.2.2.2.1.1
    obtain ⟨f1, f2, f3, f4, f5⟩ := TV_facts hp7 hDn hT
    refine CE_of rfl (b_F_extend_0 _ _ _ _ _ _ ⟨fun c1 => ?_, fun c1 => ⟨fun c2 => absurd c2 (nI_ge (b := 4) (by omega) (by omega)), fun _ => ?_⟩⟩)
    · rw [e0, nI_leI (by omega) (by omega)] at c1
      refine ext_weigh hW hp7 hDn hb hD hF hT sO.rf hTB hS (fun _ _ => Nat.le_refl _) (fun t' m' hT' hm' => ?_) kk
      have := hT'.2.1
      omega
    · rw [e0, nI_leI (by omega) (by omega)] at c1
      have key : ∀ (l p : Nat) (R1 : Nat → Nat) (M1 : Mem) (o8 : Option V), p + l = pls g → sO 25 M M1 → TB R1 M1 → ST g D R0 R1 → (∀ q, qv g D q → R1 (8 * D + q) ≤ R (8 * D + q)) → (∀ t' m', TV g D t' m' → k < m' → (∀ a, a < k → t' a = t a) → t' k < p → ∀ q, qv g D q → R1 (8 * D + q) ≤ KV g R0 D q t' m') → JE E (d + (r + 1) + 3) n_F_extend 21 [some (.inr 20), some (.inl (nI D)), some (.inl (nI (dsT 0 t k))), some (.inl (nI (t (k - 1)))), some (.inl (nI (isF g t k))), some (.inl (nI (ky t k))), some (.inl (nI k)), some (.inl (nI p)), o8] [] M1 Q := by
        intro l
        induction l with
        | zero =>
          intro p R1 M1 o8 hp s1 hB1 hS1 hmo hcov
          have hD1 : DC g M1 := hD.sO (by omega) s1
          have h4 : M1 1 4 = nI (pls g) := hD1.2.1.1
          refine b_F_extend_21 _ _ _ _ _ _ _ _ ⟨fun _ => ?_, fun z => absurd (by rw [h4]; exact nI_le (by omega) (by omega)) z⟩
          exact ext_weigh hW hp7 hDn hb hD1 (hF.fr s1) hT s1 hB1 hS1 hmo (fun t' m' hT' hm' hpre => hcov t' m' hT' hm' hpre (by have := (hT'.2.2 k hm').1; omega)) kk
        | succ l ihl =>
          intro p R1 M1 o8 hp s1 hB1 hS1 hmo hcov
          have hD1 : DC g M1 := hD.sO (by omega) s1
          have h4 : M1 1 4 = nI (pls g) := hD1.2.1.1
          have hpp := hD1.2.1.2.1 p (by omega)
          have htl : t (k - 1) < pls g := (hT.2.2 (k - 1) (by omega)).1
          have hpl := hD1.2.1.2.1 (t (k - 1)) htl
          have xp := hW.2.2.1 p (by omega)
          have xl := hW.2.2.1 (t (k - 1)) (by omega)
          have np : nzP g p ≤ 2 := (hW.2.2.2.1 _ xp.2.2).2.2.1
          have nl : nzP g (t (k - 1)) ≤ 2 := (hW.2.2.2.1 _ xl.2.2).2.2.1
          have eor : nI D ||| nI (dsT 0 t k) = nI (dsT D t k) := by rw [fa_or, ← dsT_or]
          -- none that goes on with p
          have skip : (∀ t' m', TV g D t' m' → k < m' → (∀ a, a < k → t' a = t a) → t' k ≠ p) → JE E (d + (r + 1) + 3) n_F_extend 21 [some (.inr 20), some (.inl (nI D)), some (.inl (nI (dsT 0 t k))), some (.inl (nI (t (k - 1)))), some (.inl (nI (isF g t k))), some (.inl (nI (ky t k))), some (.inl (nI k)), some (.inl (nI p + 1)), o8] [] M1 Q := fun hno => by
            rw [nI_1]
            refine ihl (p + 1) R1 M1 _ (by omega) s1 hB1 hS1 hmo (fun t' m' hT' hm' hpre hlt => hcov t' m' hT' hm' hpre ?_)
            have := hno t' m' hT' hm' hpre
            omega
          refine b_F_extend_21 _ _ _ _ _ _ _ _ ⟨fun z => absurd z (by rw [h4]; exact nI_ge (by omega) (by omega)), fun _ => ?_⟩
          rw [eor]
          refine c_F_canCome hD1 (by omega) (by omega) (by omega) (fun o ho => ⟨fun c2 => ?_, fun c2 => ?_⟩)
          · rw [b2_z] at c2
            refine skip (fun t' m' hT' hm' hpre e => ?_)
            obtain ⟨-, b1, b2', -⟩ := hT'.2.2 k hm'
            rw [dsT_cong k hpre, e] at b1
            have : o = true := ho.mpr ⟨b1, fun q hq hA => by
              have := b2' q hq (by rw [e]; exact hA)
              rw [dsT_cong k hpre] at this
              exact this⟩
            rw [this] at c2
            exact absurd c2 (by decide)
          · rw [b2_nz] at c2
            obtain ⟨o1, o2⟩ := ho.mp c2
            refine c_B_nozzleOf (k := g 38 p) (n := nzP g p) (by omega) xp.2.2 hpp.2.2.1 (hD1.1 _ xp.2.2).2.2.1 ?_
            refine c_B_nozzleOf (k := g 38 (t (k - 1))) (n := nzP g (t (k - 1))) (by omega) xl.2.2 hpl.2.2.1 (hD1.1 _ xl.2.2).2.2.1 ⟨fun c3 => ?_, fun c3 => ?_⟩
            · rw [nI_eq (by omega) (by omega)] at c3
              refine skip (fun t' m' hT' hm' hpre e => c3 ?_)
              have := (hT'.2.2 k hm').2.2.2 (by omega)
              rw [e, hpre (k - 1) (by omega)] at this
              exact this
            · rw [nI_eq (by omega) (by omega)] at c3
              have ef : ∀ a, a < k → fs t k p a = t a := fun a ha => if_neg (by omega)
              have ek : fs t k p k = p := if_pos rfl
              have hT1 : TV g D (fs t k p) (k + 1) := by
                refine ⟨by omega, by omega, fun a ha => ?_⟩
                by_cases e : a = k
                · subst e
                  rw [ek, dsT_cong a ef]
                  refine ⟨by omega, o1, o2, fun _ => ?_⟩
                  rw [ef (a - 1) (by omega)]
                  exact c3
                · obtain ⟨b1, b2', b3, b4⟩ := hT.2.2 a (by omega)
                  rw [dsT_cong a (fun a' ha' => ef a' (by omega)), ef a (by omega)]
                  refine ⟨b1, b2', b3, fun h0 => ?_⟩
                  rw [ef (a - 1) (by omega)]
                  exact b4 h0
              have a1 : nI (dsT 0 t k) ||| (1 <<< (nI p &&& 31)) = nI (dsT 0 (fs t k p) (k + 1)) := by
                rw [or_bit _ _ (by omega), dsT, ek, dsT_cong k ef]
              have a2 : isF g (fs t k p) (k + 1) = isF g t k + mv (g 36 (t (k - 1))) (g 37 (t (k - 1))) (g 36 p) (g 37 p) := by
                obtain ⟨k', rfl⟩ : ∃ k', k = k' + 1 := ⟨k - 1, by omega⟩
                rw [isF, isF_c (k' + 1) ef, ek, ef k' (by omega)]
                rfl
              have vl : vp_in (nI (t (k - 1))) 10 := vp_in_nI (by omega) (by omega)
              have vp : vp_in (nI p) 10 := vp_in_nI (by omega) (by omega)
              refine ⟨vl, vl, vp, vp, ?_⟩
              rw [nI_clamp (show t (k - 1) < 2 ^ 31 by omega), nI_clamp (show p < 2 ^ 31 by omega), hpl.1, hpl.2.1, hpp.1, hpp.2.1]
              refine c_D_way (by omega) (by omega) (by omega) (by omega) ?_
              rw [nI_add, ← a2, a1]
              have wd := c_F_withDigit (E := E) (d := d + r + 2) (M := M1) (t := fs t k p) (m := k) (by omega) (by rw [ek]; omega) (Q := fun r6 M6 => CE E (d + r + 3) n_F_extend [.inr 20, .inl (nI D), .inl (nI (dsT 0 (fs t k p) (k + 1))), .inl (nI p), .inl (nI (isF g (fs t k p) (k + 1))), .inl r6, .inl (nI k + 1)] M6 (fun _ M7 => JE E (d + (r + 1) + 3) n_F_extend 21 [some (.inr 20), some (.inl (nI D)), some (.inl (nI (dsT 0 t k))), some (.inl (nI (t (k - 1)))), some (.inl (nI (isF g t k))), some (.inl (nI (ky t k))), some (.inl (nI k)), some (.inl (nI p + 1)), some (.inl (nI (isF g (fs t k p) (k + 1))))] [] M7 Q)) ?_
              · rw [ek, ky_c ef] at wd
                exact wd
              · show CE E (d + r + 3) n_F_extend _ M1 _
                have hrec := ih (k + 1) (fs t k p) R1 M1 (fun _ M7 => JE E (d + (r + 1) + 3) n_F_extend 21 [some (.inr 20), some (.inl (nI D)), some (.inl (nI (dsT 0 t k))), some (.inl (nI (t (k - 1)))), some (.inl (nI (isF g t k))), some (.inl (nI (ky t k))), some (.inl (nI k)), some (.inl (nI p + 1)), some (.inl (nI (isF g (fs t k p) (k + 1))))] [] M7 Q) (by omega) hD1 (hF.fr s1) hT1 hB1 hS1 (fun R2 M2 s2 hB2 hS2 hmo2 hcov2 => ?_)
                · rw [show k + 1 - 1 = k by omega, ek] at hrec
                  rw [nI_1]
                  exact hrec
                · rw [nI_1]
                  refine ihl (p + 1) R2 M2 _ (by omega) (s1.tr s2) hB2 hS2 (fun q hq => Nat.le_trans (hmo2 q hq) (hmo q hq)) (fun t' m' hT' hm' hpre hlt q hq => ?_)
                  by_cases e : t' k = p
                  · refine hcov2 t' m' hT' (by omega) (fun a ha => ?_) q hq
                    by_cases e2 : a = k
                    · rw [e2, ek]; exact e
                    · rw [ef a (by omega)]; exact hpre a (by omega)
                  · exact Nat.le_trans (hmo2 q hq) (hcov t' m' hT' hm' hpre (by omega) q hq)
      exact key (pls g) 0 R M _ (by omega) sO.rf hTB hS (fun _ _ => Nat.le_refl _) (fun t' m' _ _ _ z => by omega)
theorem c_F_tryTours {Q : Int32 → Mem → Prop} {R : Nat → Nat} {M : Mem} (hW : Wk g) (hp7 : pls g ≤ 7) (hDn : D < 2 ^ pls g) (hb : ∀ t m, TV g D t m → R0 (8 * dsT D t m + t (m - 1)) / 4096 ≤ 14000) (hD : DC g M) (hF : FM g M) (hTB : TB R M) (hS : ST g D R0 R) (kk : ∀ R' M', sO 25 M M' → TB R' M' → ST g D R0 R' → (∀ t' m', TV g D t' m' → ∀ q, qv g D q → R' (8 * D + q) ≤ KV g R0 D q t' m') → Q 0 M') : CE E (d + 7) n_F_tryTours [.inr 20, .inl (nI D)] M Q := by
  have h128 : (2 : Nat) ^ pls g ≤ 2 ^ 7 := Nat.pow_le_pow_right (by omega) hp7
  have hz1 : 1 ≤ nzs g := hW.2.2.2.2.2.2.1.1
  have key : ∀ (l p : Nat) (R1 : Nat → Nat) (M1 : Mem), p + l = pls g → sO 25 M M1 → TB R1 M1 → ST g D R0 R1 → (∀ t' m', TV g D t' m' → t' 0 < p → ∀ q, qv g D q → R1 (8 * D + q) ≤ KV g R0 D q t' m') → JE E (d + 7) n_F_tryTours 2 [some (.inr 20), some (.inl (nI D)), some (.inl (nI p))] [] M1 Q := by
    intro l
    induction l with
    | zero =>
      intro p R1 M1 hp s1 hB1 hS1 hcov
      have hD1 : DC g M1 := hD.sO (by omega) s1
      have h4 : M1 1 4 = nI (pls g) := hD1.2.1.1
      exact b_F_tryTours_2 _ _ ⟨fun _ => kk R1 M1 s1 hB1 hS1 (fun t' m' hT' => hcov t' m' hT' (by have := (hT'.2.2 0 hT'.1).1; omega)), fun z => absurd (by rw [h4]; exact nI_le (by omega) (by omega)) z⟩
    | succ l ihl =>
      intro p R1 M1 hp s1 hB1 hS1 hcov
      have hD1 : DC g M1 := hD.sO (by omega) s1
      have h4 : M1 1 4 = nI (pls g) := hD1.2.1.1
      refine b_F_tryTours_2 _ _ ⟨fun z => absurd z (by rw [h4]; exact nI_ge (by omega) (by omega)), fun _ => c_F_canCome hD1 (by omega) (by omega) (by omega) (fun o ho => ⟨fun c2 => ?_, fun c2 => ?_⟩)⟩
      · rw [b2_z] at c2
        rw [nI_1]
        refine ihl (p + 1) R1 M1 (by omega) s1 hB1 hS1 (fun t' m' hT' hlt => hcov t' m' hT' ?_)
        have : t' 0 ≠ p := fun e => by
          obtain ⟨-, b1, b2', -⟩ := hT'.2.2 0 hT'.1
          rw [e] at b1
          have : o = true := ho.mpr ⟨b1, fun q hq hA => b2' q hq (by rw [e]; exact hA)⟩
          rw [this] at c2
          exact absurd c2 (by decide)
        omega
      · rw [b2_nz] at c2
        obtain ⟨o1, o2⟩ := ho.mp c2
        have hT1 : TV g D (fun _ => p) 1 := by
          refine ⟨by omega, hz1, fun a ha => ?_⟩
          have : a = 0 := by omega
          subst this
          exact ⟨by show p < pls g; omega, o1, o2, fun z => by omega⟩
        have wd := c_F_withDigit (E := E) (d := d + 5) (M := M1) (t := fun _ => p) (m := 0) (by omega) (by show p < 7; omega) (Q := fun r2 M2 => CE E (d + 6) n_F_extend [.inr 20, .inl (nI D), .inl (1 <<< (nI p &&& 31)), .inl (nI p), .inl 0, .inl r2, .inl 1] M2 (fun _ M3 => JE E (d + 7) n_F_tryTours 2 [some (.inr 20), some (.inl (nI D)), some (.inl (nI p + 1))] [] M3 Q)) ?_
        · have e1 : ky (fun _ => p) 0 = 4095 := by
            unfold ky kd
            simp
          rw [e1] at wd
          exact wd
        · show CE E (d + 6) n_F_extend _ M1 _
          have hrec := c_F_extend (E := E) (d := d) (R0 := R0) hW hp7 hDn hb 3 1 (fun _ => p) R1 M1 (fun _ M3 => JE E (d + 7) n_F_tryTours 2 [some (.inr 20), some (.inl (nI D)), some (.inl (nI p + 1))] [] M3 Q) (by omega) hD1 (hF.fr s1) hT1 hB1 hS1 (fun R2 M2 s2 hB2 hS2 hmo2 hcov2 => ?_)
          · have e1 : nI (dsT 0 (fun _ => p) 1) = 1 <<< (nI p &&& 31) := by
              rw [one_shl _ (by omega), dsT, dsT, Nat.zero_or]
            rw [e1] at hrec
            exact hrec
          · rw [nI_1]
            refine ihl (p + 1) R2 M2 (by omega) (s1.tr s2) hB2 hS2 (fun t' m' hT' hlt q hq => ?_)
            by_cases e : t' 0 = p
            · refine hcov2 t' m' hT' hT'.1 (fun a ha => ?_) q hq
              rw [show a = 0 by omega]
              exact e
            · exact Nat.le_trans (hmo2 q hq) (hcov t' m' hT' (by omega) q hq)
  exact CE_of rfl (b_F_tryTours_0 _ (key (pls g) 0 R M (by omega) sO.rf hTB hS (fun t' m' _ z => by omega)))
end FE
