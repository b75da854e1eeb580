/-! The desk's finder: the plan is written. -/
theorem OPT_val {g : GS} {D i q v v' : Nat} {c c' : Nat → Nat} (h : OPT g D i q v c) (h' : OPT g D i q v' c') : v = v' ∧ ∀ j, i ≤ j → j < pls g → c j = c' j := by
  obtain ⟨a1, a2, a3⟩ := h
  obtain ⟨b1, b2', b3⟩ := h'
  have x := a3 c' b1
  have y := b3 c a1
  rw [← b2'] at x
  rw [← a2] at y
  have hv : v = v' := by
    rcases x with x | ⟨x, -⟩
    · rcases y with y | ⟨y, -⟩ <;> omega
    · exact x
  refine ⟨hv, fun j hij hj => ?_⟩
  rcases x with x | ⟨-, p, p1, p2, p3, p4⟩
  · omega
  · rcases y with y | ⟨-, r, r1, r2, r3, r4⟩
    · omega
    · rcases Nat.lt_trichotomy p r with z | z | z
      · have := r3 p p1 z
        rcases p4 with p4 | p4 <;> omega
      · subst z
        rcases p4 with p4 | p4
        · exact p3 j hij (by omega)
        · rcases r4 with r4 | r4
          · exact p3 j hij (by omega)
          · omega
      · have := p3 r r1 z
        rcases r4 with r4 | r4 <;> omega
theorem OPT_sub {g : GS} {D i q v : Nat} {c : Nat → Nat} (hp7 : pls g ≤ 7) (hi : i < pls g) (h : OPT g D i q v c) : OPT g (dsT D (fun k => c (i + k) % 16) (enT (gC g c) i - i)) (enT (gC g c) i) (c (enT (gC g c) i - 1) % 16) (cst g c (enT (gC g c) i) (c (enT (gC g c) i - 1) % 16)) c := by
  obtain ⟨a1, a2, a3⟩ := h
  obtain ⟨hT, hS⟩ := SG_split a1 hi
  obtain ⟨e1, e2, e3, e4⟩ := enT_gC (g := g) (c := c) hi
  refine ⟨hS, rfl, fun c' hc' => ?_⟩
  have em : i + (enT (gC g c) i - i) = enT (gC g c) i := by omega
  obtain ⟨s1, s2⟩ := SG_glue (i := i) (c := c') (by omega) hT (by rw [em]; exact hc')
  rw [em] at s2
  have x := a3 _ s1
  have t7 : ∀ k, k < enT (gC g c) i - i → c (i + k) % 16 < 16 := fun k _ => by omega
  have hcode : ∀ j, i ≤ j → j < enT (gC g c) i → gl i (fun k => c (i + k) % 16) (enT (gC g c) i - i) c' j = c j := fun j x y => by
    have g1 := gl_mod (i := i) (m := enT (gC g c) i - i) (t := fun k => c (i + k) % 16) (c := c') (k := j - i) (by omega) (t7 _ (by omega))
    have ej : i + (j - i) = j := by omega
    rw [ej] at g1
    have g2 := (a1.2.2.1 (j - i) (by omega)).1
    rw [ej] at g2
    by_cases z : j = i
    · have := a1.2.1 hi
      rw [← z] at this
      omega
    · have := e3 j (by omega) y
      omega
  have hout : ∀ j, enT (gC g c) i ≤ j → gl i (fun k => c (i + k) % 16) (enT (gC g c) i - i) c' j = c' j := fun j hj => gl_out (by omega)
  have c1 := cst_step (g := g) (c := c) (q := q) hi
  have c2 := cst_step (g := g) (c := gl i (fun k => c (i + k) % 16) (enT (gC g c) i - i) c') (q := q) hi
  rw [s2, hcode (enT (gC g c) i - 1) (by omega) (by omega)] at c2
  rw [cst_cong (c' := c') (fun j a _ => hout j a)] at c2
  rw [tcF_c (t' := fun k => c (i + k) % 16) (by omega) (fun k hk => by rw [hcode (i + k) (by omega) (by omega)])] at c2
  rw [a2, c1, c2] at x
  rcases x with x | ⟨x, j, j1, j2, j3, j4⟩
  · left; omega
  · right
    refine ⟨by omega, ?_⟩
    have hj : enT (gC g c) i ≤ j := by
      apply Classical.byContradiction
      intro hn
      have := hcode j j1 (by omega)
      rcases j4 with j4 | j4 <;> omega
    refine ⟨j, hj, j2, fun j' a b => ?_, ?_⟩
    · have := j3 j' (by omega) b
      rw [hout j' a] at this
      exact this
    · rw [hout j hj] at j4
      exact j4
/-- the first i codes of c are written -/
def RW (c : Nat → Nat) (i : Nat) (M : Mem) : Prop := M 15 1 = nI i ∧ M 15 2 = nI (dsT 0 (fun j => c j % 16) i) ∧ ∀ j, j < i → M 16 j = nI (c j)
section FX
variable {E : Env0} {d : Nat} {M : Mem} {Q : Int32 → Mem → Prop} {g : GS}
theorem c_F_writeTo {R c : Nat → Nat} (hp7 : pls g ≤ 7) (hn1 : 1 ≤ pls g) (hz : nzs g ≤ 4) (h20 : M 20 3 = nI (2 ^ pls g - 1)) (hB : TB R M) (hRT : ∀ D, D < 2 ^ pls g → rcB g D → RT g R D) (hO : OPT g 0 0 7 (cst g c 0 7) c) (k : ∀ M', (∀ k', k' ≠ 15 → k' ≠ 16 → M' k' = M k') → RW c (pls g) M' → Q 0 M') : CE E (d + 2) n_F_writeTo [.inr 20, .inr 15] M Q := by
  have h128 : (2 : Nat) ^ pls g ≤ 2 ^ 7 := Nat.pow_le_pow_right (by omega) hp7
  have h0 := Nat.two_pow_pos (pls g)
  have key : ∀ (f i q x : Nat) (D : Nat) (M1 : Mem) (o5 o6 : Option V), i + f = pls g → x ≤ i → D = dsT 0 (fun j => c j % 16) i → D < 2 ^ pls g → pc D 10 = i → rcB g D → qv g D q → OPT g D i q (cst g c i q) c → (∀ k', k' ≠ 15 → k' ≠ 16 → M1 k' = M k') → RW c i M1 → JE E (d + 2) n_F_writeTo 12 [some (.inr 20), some (.inr 15), some (.inl (nI D)), some (.inl (nI q)), some (.inl (nI x)), o5, o6] [] M1 Q := by
    intro f
    induction f using Nat.strongRecOn with
    | ind f ih =>
      intro i q x D M1 o5 o6 hi hx hDe hD hpc hrc hq hO1 e1 hW
      have e20 : M1 20 3 = nI (2 ^ pls g - 1) := by rw [e1 20 (by omega) (by omega)]; exact h20
      have hpf := pc_full (pls g) (by omega) D (by omega) hD
      by_cases hin : i = pls g
      · have hDf : D = 2 ^ pls g - 1 := hpf.2 (by omega)
        have fin : Q 0 M1 := k M1 e1 (by rw [← hin]; exact hW)
        exact b_F_writeTo_12 _ _ _ _ _ ⟨fun _ => fin, fun _ => ⟨fun _ => fin, fun z => absurd (by rw [e20, hDf]) z⟩⟩
      · have hilt : i < pls g := by omega
        have hDf : D ≠ 2 ^ pls g - 1 := fun e => by
          have := pc_fullN (pls g) (by omega)
          rw [← e] at this
          omega
        have hq8 : q < 8 := by
          rcases hq with ⟨-, z⟩ | ⟨z, -⟩ <;> omega
        -- what the table says here
        obtain ⟨c2, o1, o2⟩ := hRT D hD hrc q hq
        rw [hpc] at o1 o2
        obtain ⟨ov, oc⟩ := OPT_val hO1 o1
        obtain ⟨a1, a2, a3, a4⟩ := enT_gC (g := g) (c := c) hilt
        have een : enT (gC g c2) i = enT (gC g c) i := enT_is a1 a2 (fun j u w => by rw [← oc j (by omega) (by omega)]; exact a3 j u w) (fun z => by rw [← oc _ (by omega) z]; exact a4 z)
        have hkey : R (8 * D + q) % 4096 = ky (fun k => c (i + k) % 16) (enT (gC g c) i - i) := by
          rw [o2 hDf, een]
          exact ky_c (fun k hk => by rw [oc (i + k) (by omega) (by omega)])
        obtain ⟨hT, hS⟩ := SG_split hO1.1 hilt
        obtain ⟨f1, f2, f3, f4, f5⟩ := TV_facts hp7 hD hT
        have hsub := OPT_sub hp7 hilt hO1
        have hm4 : enT (gC g c) i - i ≤ 4 := by have := hT.2.1; omega
        obtain ⟨b1, b2'⟩ := hB (8 * D + q) (by omega)
        have eR : R (8 * D + q) = R (8 * D + q) / 4096 * 4096 + ky (fun k => c (i + k) % 16) (enT (gC g c) i - i) := by omega
        have eix : nI D * 8 + nI q = nI (8 * D + q) := by
          rw [show (8 : Int32) = nI 8 from rfl, pk_mul, nI_add, Nat.mul_comm]
        have e25 : M1 25 (8 * D + q) = nI (R (8 * D + q) / 4096 * 4096 + ky (fun k => c (i + k) % 16) (enT (gC g c) i - i)) := by
          rw [e1 25 (by omega) (by omega), b1, ← eR]
        refine b_F_writeTo_12 _ _ _ _ _ ⟨fun z => absurd z (nI_ge (b := 7) (by omega) (by omega)), fun _ => ⟨fun z => absurd z (by rw [e20, nI_eq (by omega) (by omega)]; exact hDf), fun _ => ?_⟩⟩
        rw [eix, nI_clamp (by omega), e25]
        refine ⟨vp_in_nI (by omega) (by omega), ?_⟩
        have hvb : R (8 * D + q) / 4096 * 4096 + ky (fun k => c (i + k) % 16) (enT (gC g c) i - i) < 2 ^ 31 := by rw [← eR]; exact b2'
        generalize R (8 * D + q) / 4096 = a at hvb
        -- one tour is written
        have inner : ∀ (l kk : Nat) (y : Nat) (M2 : Mem), kk + l = enT (gC g c) i - i → (kk ≠ 0 → y = c (i + kk - 1) % 16) → (∀ k', k' ≠ 15 → k' ≠ 16 → M2 k' = M k') → RW c (i + kk) M2 → JE E (d + 2) n_F_writeTo 43 [some (.inr 20), some (.inr 15), some (.inl (nI (dsT D (fun k => c (i + k) % 16) kk))), some (.inl (nI y)), some (.inl (nI x)), some (.inl (nI (a * 4096 + ky (fun k => c (i + k) % 16) (enT (gC g c) i - i)))), some (.inl (nI kk))] [] M2 Q := by
          intro l
          induction l with
          | zero =>
            intro kk y M2 hk hy e2 hW2
            have hkm : kk = enT (gC g c) i - i := by omega
            have next : JE E (d + 2) n_F_writeTo 12 [some (.inr 20), some (.inr 15), some (.inl (nI (dsT D (fun k => c (i + k) % 16) kk))), some (.inl (nI y)), some (.inl (nI x + 1)), some (.inl (nI (a * 4096 + ky (fun k => c (i + k) % 16) (enT (gC g c) i - i)))), some (.inl (nI kk))] [] M2 Q := by
              have hy' : y = c (enT (gC g c) i - 1) % 16 := by
                rw [hy (by omega), show i + kk - 1 = enT (gC g c) i - 1 by omega]
              have eik : i + kk = enT (gC g c) i := by omega
              rw [nI_1, hy', hkm]
              have el : c (i + (enT (gC g c) i - i - 1)) % 16 = c (enT (gC g c) i - 1) % 16 := by
                rw [show i + (enT (gC g c) i - i - 1) = enT (gC g c) i - 1 by omega]
              refine ih (pls g - enT (gC g c) i) (by omega) (enT (gC g c) i) _ (x + 1) _ M2 _ _ (by omega) (by omega) ?_ f1 (by omega) (rc_tour hrc hT) (by rw [← el]; exact f4) hsub e2 (by rw [← eik]; exact hW2)
              have hadd := dsT_add 0 (fun j => c j % 16) i (enT (gC g c) i - i)
              rw [show i + (enT (gC g c) i - i) = enT (gC g c) i by omega, ← hDe] at hadd
              exact hadd.symm
            refine b_F_writeTo_43 _ _ _ _ _ ⟨fun _ => next, fun c1 => c_F_digit (by
              apply Classical.byContradiction
              intro hn
              exact c1 (nI_le (a := 4) (by omega) (by omega))) f5 hvb ⟨fun _ => next, fun z => absurd ?_ z⟩⟩
            have : kd (fun k => c (i + k) % 16) (enT (gC g c) i - i) kk = 7 := if_neg (by omega)
            rw [this]
            rfl
          | succ l ihl =>
            intro kk y M2 hk hy e2 hW2
            have ht7 := f5 kk (by omega)
            have hkd : kd (fun k => c (i + k) % 16) (enT (gC g c) i - i) kk = c (i + kk) % 16 := if_pos (by omega)
            have ht7 : c (i + kk) % 16 < 7 := ht7
            have hc32 := (hO1.1.2.2.1 kk (by omega)).1
            have app : ∀ z : Bool, z = decide (kk = 0) → CE E (d + 1) n_R_append [.inr 15, .inl (nI (c (i + kk) % 16)), .inl (b2 z)] M2 (fun _ M3 => JE E (d + 1 + 1) n_F_writeTo 43 [some (.inr 20), some (.inr 15), some (.inl (nI (dsT D (fun k => c (i + k) % 16) kk) ||| (1 <<< (nI (c (i + kk) % 16) &&& 31)))), some (.inl (nI (c (i + kk) % 16))), some (.inl (nI x)), some (.inl (nI (a * 4096 + ky (fun k => c (i + k) % 16) (enT (gC g c) i - i)))), some (.inl (nI kk + 1))] [] M3 Q) := by
              intro z hz'
              refine c_R_append (n := i + kk) (by omega) (by omega) hW2.1 hW2.2.1 ?_
              have eD : nI (dsT D (fun k => c (i + k) % 16) kk) ||| (1 <<< (nI (c (i + kk) % 16) &&& 31)) = nI (dsT D (fun k => c (i + k) % 16) (kk + 1)) := by
                rw [or_bit _ _ (by omega), dsT]
              have ecode : (if z = true ∨ i + kk = 0 then c (i + kk) % 16 + 16 else c (i + kk) % 16) = c (i + kk) := by
                by_cases z0 : kk = 0
                · have h16 := hO1.1.2.1 hilt
                  rw [z0, Nat.add_zero] at hc32 ⊢
                  rw [if_pos (Or.inl (by rw [hz']; simp [z0]))]
                  omega
                · have h16 := a3 (i + kk) (by omega) (by omega)
                  rw [if_neg (by rw [hz']; simp; omega)]
                  omega
              rw [eD, nI_1, ecode]
              refine ihl (kk + 1) _ _ (by omega) (fun _ => by rw [show i + (kk + 1) - 1 = i + kk by omega]) (fun k' u w => by rw [mset_ne _ _ _ u, mset_ne _ _ _ u, mset_ne _ _ _ w]; exact e2 k' u w) ⟨?_, ?_, fun j hj => ?_⟩
              · rw [mset_eq]; exact if_pos rfl
              · rw [mset_eq, mset_eq]
                rfl
              · rw [mset_ne _ _ _ (by omega), mset_ne _ _ _ (by omega), mset_eq]
                unfold upd
                by_cases w : j = i + kk
                · rw [if_pos w, w]
                · rw [if_neg w]; exact hW2.2.2 j (by omega)
            refine b_F_writeTo_43 _ _ _ _ _ ⟨fun z => absurd z (nI_ge (b := 4) (by omega) (by omega)), fun _ => c_F_digit (by omega) f5 hvb ?_⟩
            rw [hkd]
            refine ⟨fun z => absurd z (by rw [show (7 : Int32) = nI 7 from rfl, nI_eq (by omega) (by omega)]; omega), fun _ => c_F_digit (by omega) f5 hvb ?_⟩
            rw [hkd]
            refine ⟨fun c1 => ?_, fun c1 => ?_⟩
            · rw [zero_nI, nI_eq (by omega) (by omega)] at c1
              exact app false (by simp [c1])
            · rw [zero_nI, nI_eq (by omega) (by omega)] at c1
              exact app true (by simp [c1])
        exact inner (enT (gC g c) i - i) 0 q M1 (by omega) (fun z => absurd rfl z) e1 hW
  refine CE_of rfl (b_F_writeTo_0 (c_R_empty ?_))
  have hrc0 : rcB g 0 := fun p _ z => by simp at z
  refine key (pls g) 0 7 0 0 _ _ _ (by omega) (by omega) rfl h0 (by decide) hrc0 (Or.inl ⟨rfl, rfl⟩) hO (fun k' u _ => by rw [mset_ne _ _ _ u, mset_ne _ _ _ u]) ⟨?_, ?_, fun j hj => by omega⟩
  · rw [mset_eq, mset_eq]; rfl
  · rw [mset_eq]; exact if_pos rfl
end FX
