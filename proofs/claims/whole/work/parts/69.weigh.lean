/-! The desk's finder: one tour is weighed. -/
def FM (g : GS) (M : Mem) : Prop := M 20 3 = nI (2 ^ pls g - 1) ∧ ∀ T, 1 ≤ T → T < 2 ^ pls g → M 23 T = nI (enS g T (pls g)) ∧ M 24 T = nI (lvS g T (pls g)) ∧ M 22 T = nI (lvS g T (pls g)) - nI (enS g T (pls g)) + nI (fnS g T (pls g) * g 31 14) + nI (pc T 10 * (g 31 12 + g 31 13))
theorem FM.fr {g : GS} {M M' : Mem} (h : FM g M) (e : sO 25 M M') : FM g M' := by
  unfold FM at *
  rw [e 20 (by omega), e 22 (by omega), e 23 (by omega), e 24 (by omega)]
  exact h
theorem TV.zero {g : GS} {D m : Nat} {t : Nat → Nat} (h : TV g D t m) : ∀ k, k < m → t k < pls g ∧ (dsT 0 t k).testBit (t k) = false := fun k hk => by
  obtain ⟨a, b, -⟩ := h.2.2 k hk
  rw [dsT_or, Nat.testBit_or, Bool.or_eq_false_iff] at b
  exact ⟨a, b.2⟩
theorem en_le_lv (g : GS) {t : Nat → Nat} {m : Nat} (hm : 1 ≤ m) : enF g t m ≤ lvF g t m ∧ lvF g t m ≤ 199 := by
  have h1 := enF_le g t m 0 (by omega)
  have h2 := hiF_ge g t m 0 (by omega)
  have h3 : ∀ p, sxP g p ≤ 160 := fun p => by
    have := slO_le g (g 38 p)
    unfold sxP
    omega
  have h4 := h3 (t 0)
  have h5 : hiF g t m ≤ 160 := by
    rcases hiF_or g t m with z | ⟨k, -, z⟩
    · omega
    · rw [z]; exact h3 _
  unfold lvF
  split <;> omega
theorem FM.tour {g : GS} {M : Mem} {D m : Nat} {t : Nat → Nat} (h : FM g M) (hp7 : pls g ≤ 7) (hT : TV g D t m) : 1 ≤ dsT 0 t m ∧ dsT 0 t m < 2 ^ pls g ∧ M 23 (dsT 0 t m) = nI (enF g t m) ∧ M 24 (dsT 0 t m) = nI (lvF g t m) ∧ M 22 (dsT 0 t m) = nI (fxF g t m) := by
  have hz := hT.zero
  have hm := hT.1
  have hlt : dsT 0 t m < 2 ^ pls g := dsT_lt (Nat.two_pow_pos _) m (fun k hk => (hz k hk).1)
  have h1 : 1 ≤ dsT 0 t m := by
    apply Classical.byContradiction
    intro hn
    have : (dsT 0 t m).testBit (t 0) = true := (dsT_bit 0 t m _).mpr (Or.inr ⟨0, by omega, rfl⟩)
    rw [show dsT 0 t m = 0 by omega] at this
    simp at this
  obtain ⟨s1, s2, s3⟩ := S_tour g (n := pls g) m hz
  have hpc : pc (dsT 0 t m) 10 = m := by
    have := dsT_pc (D := 0) m (fun k hk => ⟨by have := (hz k hk).1; omega, (hz k hk).2⟩)
    have e0 : pc 0 10 = 0 := by decide
    omega
  have hl : lvS g (dsT 0 t m) (pls g) = lvF g t m := by
    unfold lvS lvF
    rw [s2, s3]
  obtain ⟨a, b, c⟩ := h.2 (dsT 0 t m) h1 hlt
  rw [s1] at a
  rw [hl] at b
  rw [hl, s1, s3, hpc, pk_sub (en_le_lv g hm).1, nI_add, nI_add] at c
  exact ⟨h1, hlt, a, b, c⟩
theorem isF_le {g : GS} (hW : Wk g) {t : Nat → Nat} : ∀ m, (∀ k, k < m → t k < 10) → isF g t m ≤ 199 * m
  | 0, _ => Nat.zero_le _
  | 1, _ => Nat.zero_le _
  | m + 2, h => by
    have h1 := isF_le hW (t := t) (m + 1) (fun k hk => h k (by omega))
    have a := hW.2.2.1 (t m) (h m (by omega))
    have b := hW.2.2.1 (t (m + 1)) (h (m + 1) (by omega))
    have := mv_le (n := 199) a.1 a.2.1 b.1 b.2.1
    rw [isF]
    omega
theorem fnF_le {g : GS} (hW : Wk g) {t : Nat → Nat} : ∀ m, (∀ k, k < m → t k < 10) → fnF g t m ≤ m
  | 0, _ => Nat.le_refl _
  | m + 1, h => by
    have h1 := fnF_le hW (t := t) m (fun k hk => h k (by omega))
    have : fiP g (t m) ≤ 1 := (hW.2.2.2.1 _ (hW.2.2.1 _ (h m (by omega))).2.2).2.2.2
    rw [fnF]
    omega
theorem hdN_le {g : GS} (hW : Wk g) (hp7 : pls g ≤ 7) {D q : Nat} (hq : qv g D q) : (hdN g q).1 ≤ 199 ∧ (hdN g q).2.1 ≤ 199 ∧ (hdN g q).2.2 ≤ 2 := by
  unfold hdN
  rcases hq with ⟨-, z⟩ | ⟨z, -⟩
  · rw [if_pos z]; exact ⟨by show 0 ≤ 199; omega, by show 0 ≤ 199; omega, by show 0 ≤ 2; omega⟩
  · rw [if_neg (by omega)]
    have a := hW.2.2.1 q (by omega)
    exact ⟨a.1, a.2.1, (hW.2.2.2.1 _ a.2.2).2.2.1⟩
theorem tcF_le {g : GS} (hW : Wk g) (hp7 : pls g ≤ 7) {D q m : Nat} {t : Nat → Nat} (hT : TV g D t m) (hq : qv g D q) : tcF g (hdN g q).1 (hdN g q).2.1 (hdN g q).2.2 t m ≤ 2000 := by
  have hz := hT.zero
  have hm := hT.1
  have hm4 : m ≤ 4 := by have h1 := hT.2.1; have h2 : nzs g ≤ 4 := hW.2.2.2.2.2.2.1.2; omega
  have ht : ∀ k, k < m → t k < 10 := fun k hk => by have := (hz k hk).1; omega
  obtain ⟨q1, q2, -⟩ := hdN_le hW hp7 hq
  have e1 := en_le_lv g (t := t) hm
  have a := hW.2.2.1 (t 0) (ht 0 (by omega))
  have m1 := mv_le (n := 199) q1 q2 (Nat.le_trans e1.1 e1.2) (Nat.zero_le 199)
  have m2 := mv_le (n := 199) e1.2 (Nat.zero_le 199) a.1 a.2.1
  have i1 := isF_le hW m ht
  have f1 := fnF_le hW m ht
  obtain ⟨w1, w2, w3, w4⟩ := hW.2.2.2.2.2.2.2.1
  have p1 : fnF g t m * g 31 14 ≤ 4 * 20 := Nat.mul_le_mul (by omega) w3
  have p2 : m * (g 31 12 + g 31 13) ≤ 4 * 40 := Nat.mul_le_mul hm4 (by omega)
  unfold tcF fxF
  have u : (if (hdN g q).2.2 = nzP g (t 0) then 0 else g 31 15) ≤ 50 := by split <;> omega
  omega
section FW
variable {E : Env0} {d : Nat} {M : Mem} {Q : Int32 → Mem → Prop} {g : GS}
theorem c_F_weigh {D m : Nat} {t R R0 : Nat → Nat} (hD : DC g M) (hW : Wk g) (hp7 : pls g ≤ 7) (hF : FM g M) (hDn : D < 2 ^ pls g) (hT : TV g D t m) (hTB : TB R M) (hout : ∀ j, j / 8 ≠ D → R j = R0 j) (hb : R0 (8 * dsT D t m + t (m - 1)) / 4096 ≤ 14000)
    (k : ∀ R' M', sO 25 M M' → TB R' M' → (∀ j, j / 8 ≠ D → R' j = R j) → (∀ q, qv g D q → R' (8 * D + q) = if KV g R0 D q t m < R (8 * D + q) then KV g R0 D q t m else R (8 * D + q)) → Q 0 M') : CE E (d + 2) n_F_weigh [.inr 20, .inl (nI D), .inl (nI (dsT 0 t m)), .inl (nI (t (m - 1))), .inl (nI (isF g t m)), .inl (nI (ky t m))] M Q := by
  have hm := hT.1
  obtain ⟨t1, t2, t3, t4, t5⟩ := hF.tour hp7 hT
  obtain ⟨f1, f2, f3, f4, f5⟩ := TV_facts hp7 hDn hT
  have h128 : (2 : Nat) ^ pls g ≤ 2 ^ 7 := Nat.pow_le_pow_right (by omega) hp7
  have hz := hT.zero
  have ht0 : t 0 < pls g := (hz 0 (by omega)).1
  have htl : t (m - 1) < pls g := (hz (m - 1) (by omega)).1
  have hky := ky_lt f5
  have hk0 : kd t m 0 = t 0 := if_pos (by omega)
  have hDP := hD.2.1.2.1
  have hne : dsT D t m ≠ D := fun e => by
    have : pc (dsT D t m) 10 = pc D 10 := by rw [e]
    omega
  have eidx : (nI D ||| nI (dsT 0 t m)) * 8 + nI (t (m - 1)) = nI (8 * dsT D t m + t (m - 1)) := by
    rw [fa_or, ← dsT_or, show (8 : Int32) = nI 8 from rfl, pk_mul, nI_add, Nat.mul_comm]
  have hmax : 8 * dsT D t m + t (m - 1) < 1024 := by omega
  have eR : R (8 * dsT D t m + t (m - 1)) = R0 (8 * dsT D t m + t (m - 1)) := hout _ (by omega)
  obtain ⟨b1, b2'⟩ := hTB _ hmax
  rw [eR] at b1 b2'
  have eaf : M 25 (8 * dsT D t m + t (m - 1)) >>> ((12 : Int32) &&& 31) = nI (R0 (8 * dsT D t m + t (m - 1)) / 4096) := by
    rw [b1, pk_shrN b2' _ 12 (by decide), show (2 : Nat) ^ 12 = 4096 by decide]
  have x0 := hW.2.2.1 (t 0) (by omega)
  have e1 := en_le_lv g (t := t) hm
  have n0 := (hW.2.2.2.1 _ x0.2.2).2.2.1
  refine CE_of rfl (b_F_weigh_0 _ _ _ _ _ ?_)
  have hdig := c_F_digit (E := E) (d := d) (M := M) (a := 0) (t := t) (m := m) (k := 0) (by omega) f5 (by rw [Nat.zero_mul, Nat.zero_add]; exact Nat.lt_trans hky (by decide)) (Q := fun r1 M1 => vp_in (((nI D ||| nI (dsT 0 t m)) * 8) + nI (t (m - 1))) 1024 ∧ vp_in (nI (dsT 0 t m)) 128 ∧ vp_in (nI (dsT 0 t m)) 128 ∧ vp_in r1 10 ∧ vp_in r1 10 ∧ CE E (d + 1) n_D_way [.inl (M1 24 (nI (dsT 0 t m)).toNatClampNeg), .inl 0, .inl (M1 6 r1.toNatClampNeg), .inl (M1 7 r1.toNatClampNeg)] M1 (fun r2 M2 => CE E (d + 1) n_B_nozzleOf [.inr 1, .inl r1] M2 (fun r3 M3 =>
      (¬ nI D = 0 → JE E (d + 1 + 1) n_F_weigh 128 [some (.inr 20), some (.inl (nI D)), some (.inl (nI (dsT 0 t m))), some (.inl (nI (t (m - 1)))), some (.inl (nI (isF g t m))), some (.inl (nI (ky t m))), some (.inl r1), some (.inl ((M1 25 (((nI D ||| nI (dsT 0 t m)) * 8) + nI (t (m - 1))).toNatClampNeg) >>> (12 &&& 31))), some (.inl ((((M1 22 (nI (dsT 0 t m)).toNatClampNeg) + r2) + nI (isF g t m)) + ((M1 25 (((nI D ||| nI (dsT 0 t m)) * 8) + nI (t (m - 1))).toNatClampNeg) >>> (12 &&& 31)))), some (.inl r3), some (.inl 0), none, none] [] M3 Q) ∧
      (nI D = 0 →
        (¬ r3 = 0 → vp_in (nI (dsT 0 t m)) 128 ∧ CE E (d + 1) n_F_keep [.inr 20, .inl 7, .inl ((((((M1 22 (nI (dsT 0 t m)).toNatClampNeg) + r2) + nI (isF g t m)) + ((M1 25 (((nI D ||| nI (dsT 0 t m)) * 8) + nI (t (m - 1))).toNatClampNeg) >>> (12 &&& 31))) + (M3 14 4)) + (M3 23 (nI (dsT 0 t m)).toNatClampNeg)), .inl (nI (ky t m))] M3 (fun r4 M4 => Q 0 M4)) ∧
        (r3 = 0 → vp_in (nI (dsT 0 t m)) 128 ∧ CE E (d + 1) n_F_keep [.inr 20, .inl 7, .inl ((((((M1 22 (nI (dsT 0 t m)).toNatClampNeg) + r2) + nI (isF g t m)) + ((M1 25 (((nI D ||| nI (dsT 0 t m)) * 8) + nI (t (m - 1))).toNatClampNeg) >>> (12 &&& 31))) + 0) + (M3 23 (nI (dsT 0 t m)).toNatClampNeg)), .inl (nI (ky t m))] M3 (fun r5 M5 => Q 0 M5)))))) ?_
  · rw [Nat.zero_mul, Nat.zero_add] at hdig
    exact hdig
  show _ ∧ _
  rw [hk0]
  have vT : vp_in (nI (dsT 0 t m)) 128 := vp_in_nI (by omega) (by omega)
  have v0 : vp_in (nI (t 0)) 10 := vp_in_nI (by omega) (by omega)
  rw [eidx, nI_clamp (show dsT 0 t m < 2 ^ 31 by omega), nI_clamp (show t 0 < 2 ^ 31 by omega), nI_clamp (show 8 * dsT D t m + t (m - 1) < 2 ^ 31 by omega)]
  refine ⟨vp_in_nI hmax (by omega), vT, vT, v0, v0, ?_⟩
  rw [t4, (hDP _ ht0).1, (hDP _ ht0).2.1]
  refine c_D_way (y := 0) (by omega) (by omega) (by omega) (by omega) ?_
  refine c_B_nozzleOf (k := g 38 (t 0)) (n := nzP g (t 0)) (by omega) x0.2.2 (hDP _ ht0).2.2.1 (hD.1 _ x0.2.2).2.2.1 ?_
  rw [t5, eaf, nI_add, nI_add, nI_add, t3]
  have hm4 : m ≤ 4 := by have h1 := hT.2.1; have h2 : nzs g ≤ 4 := hW.2.2.2.2.2.2.1.2; omega
  have hKV : ∀ q, KV g R0 D q t m = (fxF g t m + mv (lvF g t m) 0 (g 36 (t 0)) (g 37 (t 0)) + isF g t m + R0 (8 * dsT D t m + t (m - 1)) / 4096 + (if (hdN g q).2.2 = nzP g (t 0) then 0 else g 31 15) + mv (hdN g q).1 (hdN g q).2.1 (enF g t m) 0) * 4096 + ky t m := fun q => by
    unfold KV tcF
    congr 2
    omega
  have hbd : ∀ q, qv g D q → fxF g t m + mv (lvF g t m) 0 (g 36 (t 0)) (g 37 (t 0)) + isF g t m + R0 (8 * dsT D t m + t (m - 1)) / 4096 + (if (hdN g q).2.2 = nzP g (t 0) then 0 else g 31 15) + mv (hdN g q).1 (hdN g q).2.1 (enF g t m) 0 ≤ 16000 := fun q hq => by
    have := tcF_le hW hp7 hT hq
    unfold tcF at this
    omega
  generalize hWW : fxF g t m + mv (lvF g t m) 0 (g 36 (t 0)) (g 37 (t 0)) + isF g t m + R0 (8 * dsT D t m + t (m - 1)) / 4096 = W at hKV hbd
  have h44 : M 14 4 = nI (g 31 15) := hD.2.2.2.1.2.2.2.2
  refine ⟨fun c1 => ?_, fun c1 => ?_⟩
  · rw [zero_nI, nI_eq (by omega) (by omega)] at c1
    have hqv : ∀ q, qv g D q ↔ q < pls g ∧ D.testBit q = true := fun q => by
      constructor
      · rintro (⟨z, -⟩ | z)
        · exact absurd z c1
        · exact z
      · exact Or.inr
    have key : ∀ (l p : Nat) (R1 : Nat → Nat) (M1 : Mem) (o11 o12 : Option V), p + l = pls g → sO 25 M M1 → TB R1 M1 → (∀ j, j / 8 ≠ D → R1 j = R j) → (∀ q, q < p → qv g D q → R1 (8 * D + q) = if KV g R0 D q t m < R (8 * D + q) then KV g R0 D q t m else R (8 * D + q)) → (∀ q, p ≤ q → q < 8 → R1 (8 * D + q) = R (8 * D + q)) → JE E (d + 2) n_F_weigh 128 [some (.inr 20), some (.inl (nI D)), some (.inl (nI (dsT 0 t m))), some (.inl (nI (t (m - 1)))), some (.inl (nI (isF g t m))), some (.inl (nI (ky t m))), some (.inl (nI (t 0))), some (.inl (nI (R0 (8 * dsT D t m + t (m - 1)) / 4096))), some (.inl (nI W)), some (.inl (nI (nzP g (t 0)))), some (.inl (nI p)), o11, o12] [] M1 Q := by
      intro l
      induction l with
      | zero =>
        intro p R1 M1 o11 o12 hp s1 hB1 ho1 hin1 hin2
        have h4 : M1 1 4 = nI (pls g) := by rw [s1 1 (by omega)]; exact hD.2.1.1
        exact b_F_weigh_128 _ _ _ _ _ _ _ _ _ _ _ _ ⟨fun _ => k R1 M1 s1 hB1 ho1 (fun q hq => hin1 q (by have := ((hqv q).mp hq).1; omega) hq), fun z => absurd (by rw [h4]; exact nI_le (by omega) (by omega)) z⟩
      | succ l ih =>
        intro p R1 M1 o11 o12 hp s1 hB1 ho1 hin1 hin2
        have h4 : M1 1 4 = nI (pls g) := by rw [s1 1 (by omega)]; exact hD.2.1.1
        have hD1 : DC g M1 := hD.sO (by omega) s1
        have xp := hW.2.2.1 p (by omega)
        have np := (hW.2.2.2.1 _ xp.2.2).2.2.1
        have hpp := hD1.2.1.2.1 p (by omega)
        refine b_F_weigh_128 _ _ _ _ _ _ _ _ _ _ _ _ ⟨fun z => absurd z (by rw [h4]; exact nI_ge (by omega) (by omega)), fun _ => c_D_hasBit (by omega) (by omega) ⟨fun c2 => ?_, fun c2 => ?_⟩⟩
        · rw [b2_z] at c2
          rw [nI_1]
          refine ih (p + 1) R1 M1 _ _ (by omega) s1 hB1 ho1 (fun q hq hqq => ?_) (fun q hq hq8 => hin2 q (by omega) hq8)
          by_cases e : q = p
          · subst e
            have hc := ((hqv q).mp hqq).2
            rw [c2] at hc
            exact absurd hc (by decide)
          · exact hin1 q (by omega) hqq
        · rw [b2_nz] at c2
          have hqp : qv g D p := Or.inr ⟨by omega, c2⟩
          have hh : hdN g p = (g 36 p, g 37 p, nzP g p) := if_neg (by omega)
          have hKp := hKV p
          have hbp := hbd p hqp
          rw [hh] at hKp hbp
          have eix : nI D * 8 + nI p = nI (8 * D + p) := by
            rw [show (8 : Int32) = nI 8 from rfl, pk_mul, nI_add, Nat.mul_comm]
          have step : ∀ (v : Nat) (o11 o12 : Option V), KV g R0 D p t m = v * 4096 + ky t m → v ≤ 16000 → CE E (d + 1) n_F_keep [.inr 20, .inl (nI (8 * D + p)), .inl (nI v), .inl (nI (ky t m))] M1 (fun _ M4 => JE E (d + 1 + 1) n_F_weigh 128 [some (.inr 20), some (.inl (nI D)), some (.inl (nI (dsT 0 t m))), some (.inl (nI (t (m - 1)))), some (.inl (nI (isF g t m))), some (.inl (nI (ky t m))), some (.inl (nI (t 0))), some (.inl (nI (R0 (8 * dsT D t m + t (m - 1)) / 4096))), some (.inl (nI W)), some (.inl (nI (nzP g (t 0)))), some (.inl (nI p + 1)), o11, o12] [] M4 Q) := by
            intro v o11 o12 hv hv2
            refine c_F_keep (R := R1) (by omega) hky (by omega) hB1 (fun M' s' hB' => ?_)
            rw [nI_1]
            refine ih (p + 1) _ M' _ _ (by omega) (s1.tr s') hB' (fun j hj => ?_) (fun q hq hqq => ?_) (fun q hq hq8 => ?_)
            · show (if j = 8 * D + p then _ else R1 j) = _
              rw [if_neg (fun e => hj (by omega))]
              exact ho1 j hj
            · show (if 8 * D + q = 8 * D + p then _ else R1 (8 * D + q)) = _
              by_cases e : q = p
              · subst e
                rw [if_pos rfl, hin2 q (by omega) (by omega), hv]
              · rw [if_neg (by omega)]
                exact hin1 q (by omega) hqq
            · show (if 8 * D + q = 8 * D + p then _ else R1 (8 * D + q)) = _
              rw [if_neg (by omega)]
              exact hin2 q (by omega) hq8
          refine c_B_nozzleOf (k := g 38 p) (n := nzP g p) (by omega) xp.2.2 hpp.2.2.1 (hD1.1 _ xp.2.2).2.2.1 ?_
          have hnz : nzP g p ≤ 2 := np
          have hnz0 : nzP g (t 0) ≤ 2 := n0
          rw [eix, nI_clamp (show p < 2 ^ 31 by omega), nI_clamp (show dsT 0 t m < 2 ^ 31 by omega), hpp.1, hpp.2.1, s1 23 (by omega), s1 14 (by omega), t3, h44]
          refine ⟨fun c3 => ⟨vp_in_nI (by omega) (by omega), vp_in_nI (by omega) (by omega), vT, ?_⟩, fun c3 => ⟨vp_in_nI (by omega) (by omega), vp_in_nI (by omega) (by omega), vT, ?_⟩⟩
          · rw [nI_eq (by omega) (by omega)] at c3
            dsimp only at hKp hbp
            rw [if_neg (fun z => c3 z.symm)] at hKp hbp
            refine c_D_way (y2 := 0) (by omega) (by omega) (by omega) (by omega) ?_
            rw [nI_add, nI_add]
            exact step _ _ _ hKp hbp
          · rw [nI_eq (by omega) (by omega)] at c3
            dsimp only at hKp hbp
            rw [if_pos c3.symm] at hKp hbp
            refine c_D_way (y2 := 0) (by omega) (by omega) (by omega) (by omega) ?_
            rw [Int32.add_zero, nI_add]
            rw [Nat.add_zero] at hKp hbp
            exact step _ _ _ hKp hbp
    exact key (pls g) 0 R M _ _ (by omega) sO.rf hTB (fun _ _ => rfl) (fun q z => by omega) (fun _ _ _ => rfl)
  · rw [zero_nI, nI_eq (by omega) (by omega)] at c1
    subst c1
    have hq7 : qv g 0 7 := Or.inl ⟨rfl, rfl⟩
    have hqv : ∀ q, qv g 0 q → q = 7 := fun q hq => by
      rcases hq with z | z
      · exact z.2
      · simp at z
    have hK7 := hKV 7
    have hb7 := hbd 7 hq7
    have hh : hdN g 7 = (0, 0, 0) := rfl
    have hmv : mv 0 0 (enF g t m) 0 = enF g t m := by
      rw [mv_x (by omega)]
      omega
    rw [hh] at hK7 hb7
    dsimp only at hK7 hb7
    rw [hmv] at hK7 hb7
    have fin : ∀ v : Nat, KV g R0 0 7 t m = v * 4096 + ky t m → v ≤ 16000 → CE E (d + 1) n_F_keep [.inr 20, .inl (nI 7), .inl (nI v), .inl (nI (ky t m))] M (fun _ M4 => Q 0 M4) := by
      intro v hv hv2
      refine c_F_keep (R := R) (by omega) hky (by omega) hTB (fun M' s' hB' => ?_)
      refine k _ M' s' hB' (fun j hj => ?_) (fun q hq => ?_)
      · show (if j = 7 then _ else R j) = _
        rw [if_neg (by omega)]
      · rw [hqv q hq, hv]
        exact if_pos rfl
    have hnz0 : nzP g (t 0) ≤ 2 := n0
    rw [h44]
    refine ⟨fun c2 => ⟨vT, ?_⟩, fun c2 => ⟨vT, ?_⟩⟩
    · rw [zero_nI, nI_eq (by omega) (by omega)] at c2
      rw [if_neg (fun z => c2 z.symm)] at hK7 hb7
      rw [nI_add, nI_add]
      exact fin _ hK7 hb7
    · rw [zero_nI, nI_eq (by omega) (by omega)] at c2
      rw [if_pos c2.symm] at hK7 hb7
      rw [Int32.add_zero, nI_add]
      rw [Nat.add_zero] at hK7 hb7
      exact fin _ hK7 hb7
end FW
