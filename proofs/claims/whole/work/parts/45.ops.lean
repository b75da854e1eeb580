/-! Operations, class against reference. -/
theorem loF_out {g : GS} {p : Nat} : ∀ (n j : Nat) (st : Nat → Nat), (∀ j', j ≤ j' → j' < j + n → plc g j' ≠ p) → loF g n j st p = st p
  | 0, _, _, _ => rfl
  | n + 1, j, st, h => by
    rw [loF, loF_out n (j + 1) _ (fun j' a b => h j' (by omega) (by omega))]
    split
    · exact fs_ne _ _ (fun e => h j (by omega) (by omega) e.symm)
    · rfl
theorem toF_out {g : GS} {gv : Nat → Nat} {s p : Nat} : ∀ (n j : Nat) (rs : RS), (∀ j', j ≤ j' → j' < j + n → plc g j' ≠ p) → (toF g gv s n j rs).1 p = rs.1 p
  | 0, _, _, _ => rfl
  | n + 1, j, rs, h => by
    rw [toF, toF_out n (j + 1) _ (fun j' a b => h j' (by omega) (by omega))]
    split
    · rw [tpS_st, if_neg (fun e => h j (by omega) (by omega) e.symm)]
    · rfl
theorem taF_out {g : GS} {gv u : Nat → Nat} {i e p : Nat} (h : ∀ j', i ≤ j' → j' < e → plc g j' ≠ p) : ∀ (n s : Nat) (rs : RS), (taF g gv u i e n s rs).1 p = rs.1 p
  | 0, _, _ => rfl
  | n + 1, s, rs => by
    rw [taF, taF_out h n (s + 1)]
    split
    · exact toF_out _ _ _ (fun j' a b => h j' a (by omega))
    · rfl
theorem seF_out {g : GS} {p : Nat} : ∀ (n j : Nat) (rs : RS), (∀ j', j ≤ j' → j' < j + n → plc g j' ≠ p) → (seF g n j rs).1 p = rs.1 p
  | 0, _, _, _ => rfl
  | n + 1, j, rs, h => by
    rw [seF, seF_out n (j + 1) _ (fun j' a b => h j' (by omega) (by omega))]
    have hne : p ≠ plc g j := fun e => h j (by omega) (by omega) e.symm
    unfold seS
    split
    · split
      · exact fs_ne _ _ hne
      · exact fs_ne _ _ hne
    · rfl
theorem toR_out {g : GS} {i e p : Nat} {rs : RS} (h : ∀ j', i ≤ j' → j' < e → plc g j' ≠ p) : (toR g i e rs).2.1 p = rs.1 p := by
  have hl := loF_out (g := g) (p := p) (e - i) i rs.1 (fun j' a b => h j' a (by omega))
  unfold toR
  split
  · split
    · show (seF g (e - i) i _).1 p = _
      rw [seF_out _ _ _ (fun j' a b => h j' a (by omega)), lpF_st, taF_out h]
      exact hl
    · exact hl
  · exact hl
theorem goR_out {g : GS} {p : Nat} (h : ∀ j, j < pln g → plc g j ≠ p) : ∀ (f i t : Nat) (rs : RS), (goR g f i t rs).2.2.2.1 p = rs.1 p
  | 0, _, _, _ => rfl
  | f + 1, i, t, rs => by
    rw [goR]
    split
    · next hi =>
      have hen := enT_le g hi
      have ho := toR_out (g := g) (i := i) (e := enT g i) (p := p) (rs := rs) (fun j' _ b => h j' (by omega))
      split
      · rw [goR_out h f]
        exact ho
      · exact ho
    · rfl
theorem ruN_out {g : GS} (hW : Wk g) {hr ov i t : Nat} {rs : RS} (h : ∀ p, pls g ≤ p → rs.1 p = 0) : ∀ p, pls g ≤ p → (ruN g hr ov i t rs).2.2.2.1 p = 0 := by
  intro p hp
  unfold ruN
  rw [goR_out (fun j hj e => by have := (hW.2.2.2.2.2.2.2.2 j hj).2; omega)]
  unfold ru0
  split
  · exact h p hp
  · show z10 rs.1 p = 0
    unfold z10
    split
    · rfl
    · exact h p hp
section OP
variable {E : Env0} {d : Nat} {M : Mem} {Q : Int32 → Int32 → Mem → Prop}
/-- no run is there -/
theorem RX.mk0 {g : GS} {ov i t : Nat} {st : Nat → Nat} {M : Mem} (w : Wk g ∧ Wp g ∧ WL g ∧ ¬ Rg (pls g) (ahB g)) (a : g 31 19 ≤ 3 ∧ ∀ n, g 43 n ≤ 1) (hst : ∀ p, st p ≤ 2) (hout : ∀ p, pls g ≤ p → st p = 0) (h48 : ∀ p, M 48 p = nI (st p)) (hov : ov ≤ 1) (hR : RC g M) (hX : MX g M) (h30 : M 31 30 = 0) (h31 : M 31 31 = nI ov) (h32 : M 31 32 = nI i) (h35 : M 31 35 = nI t) (hK : KN g M) (hD : DC g M) (hY : DX g M) (h7 : M 26 7 = 0) : RX M :=
  ⟨g, 0, ov, i, t, 0, (st, g 41, (0, 0, 0, 0), 0, 0), ⟨w, a, ⟨rfl, hst⟩, ⟨by omega, hov⟩, fun z => absurd rfl z, fun z => absurd rfl z, hout⟩, ⟨hR, hX, h48, ⟨h30, h31, h32, h35⟩, fun z => absurd rfl z, hK⟩, ⟨hD, hY, h7, fun z => absurd rfl z, fun z => absurd rfl z⟩⟩
theorem VE.s41 {g : GS} {pa : Nat → Nat} : VE g (sG g 41 pa) := ⟨rfl, fun _ _ _ => rfl, fun _ _ => ⟨rfl, rfl, rfl, rfl, rfl⟩, fun _ _ _ _ => rfl⟩
theorem op_run (h : RX M) (k : ∀ r M', M' 1000 = M 1000 → RX M' → Q r r M') : CE E (d + 6) n_D_run [.inr 0] M (fun r1 M1 => CE E (d + 6) n_M_run [.inr 31] M1 (fun r2 M2 => Q r1 r2 M2)) := by
  obtain ⟨g, hr, ov, i, t, stp, rs, hI, hM, hD⟩ := id h
  obtain ⟨⟨hW, hp, hL, hRg⟩, ⟨h19, hmis⟩, ⟨hpa, hst⟩, ⟨hhr, hov⟩, hrb, hri, hout⟩ := hI
  have eg : sG g 41 rs.2.1 = g := by
    funext k'
    unfold sG
    split
    · next e => rw [e, hpa]
    · rfl
  have hpa2 : ∀ s, s < 8 → rs.2.1 s ≤ 100 := fun s hs => by rw [hpa]; exact (hW.2.2.2.2.2.1 s hs).2
  have hR1 := ruN_RI hW hp h19 (t := t) hst hpa2 hri
  have hO1 := ruN_out hW (hr := hr) (ov := ov) (i := i) (t := t) (rs := rs) hout
  obtain ⟨hC, hX, h48, ⟨h30, h31, h32, h35⟩, hMr, hK⟩ := id hM
  obtain ⟨hDC, hDX, h7, hDr, h9⟩ := hD
  refine c_D_run (g := g) (rs := rs) (hr := hr) (ov := ov) (i := i) (t := t) (by rw [eg]; exact hDC) hDX hW hp hst hpa2 h19 hmis hhr hov hri h7 (fun z => (hDr z).1) (fun z z2 => ⟨⟨by rw [eg]; exact hDC, (hDr z).2.1⟩, h9 z z2, (hDr z).2.2.1⟩) (fun hg => ?_) (fun hg M1 s1 q1 hT1 e7 e8 e9 e12 e13 => ?_)
  · refine c_M_run (g := g) (rs := rs) (hr := hr) (ov := ov) (i := i) (t := t) (by rw [eg]; exact hC) h48 hX hW hp hst hpa2 h19 hmis hhr hov (fun z z2 => ?_) h30 h31 h32 h35 (fun _ => k _ M rfl h) (fun hg2 => by rw [hg] at hg2; exact absurd hg2 (by decide))
    have := hri z z2
    exact ⟨⟨by rw [eg]; exact hC, h48, (hMr z).1, (hMr z).2.1, (hMr z).2.2.1⟩, this.1, this.2.1, this.2.2.1⟩
  · have hM1 : RelM g hr ov i t stp rs M1 := hM.fr (fun k' a b _ _ _ _ _ => s1 k' (by omega) (by omega) (by omega) (by omega) (by omega))
    obtain ⟨hC, hX, h48, ⟨h30, h31, h32, h35⟩, hMr, hK⟩ := hM1
    refine c_M_run (g := g) (rs := rs) (hr := hr) (ov := ov) (i := i) (t := t) (by rw [eg]; exact hC) h48 hX hW hp hst hpa2 h19 hmis hhr hov (fun z z2 => ?_) h30 h31 h32 h35 (fun hg2 => by rw [hg] at hg2; exact absurd hg2 (by decide)) (fun _ M2 s2 hM2 f30 f31 f32 f35 f36 => ?_)
    · have := hri z z2
      exact ⟨⟨by rw [eg]; exact hC, h48, (hMr z).1, (hMr z).2.1, (hMr z).2.2.1⟩, this.1, this.2.1, this.2.2.1⟩
    · generalize ruN g hr ov i t rs = r at *
      obtain ⟨m1, m2, m3, m4, m5⟩ := hM2
      obtain ⟨t1, t2⟩ := hT1
      refine k _ M2 ((s2.1 1000 (by omega) (by omega) (by omega) (by omega) (by omega)).trans (s1 1000 (by omega) (by omega) (by omega) (by omega) (by omega))) ⟨sG g 41 r.2.2.2.2.1, 1, (if r.2.1 < pln g then 0 else 1), r.2.1, r.2.2.1, r.1, r.2.2.2, ⟨⟨hW.sG41 hR1.1.2.1, hp, hL, hRg⟩, ⟨h19, hmis⟩, ⟨rfl, hR1.1.1⟩, ⟨by omega, by split <;> omega⟩, fun _ => hR1.1, fun _ _ => hR1, hO1⟩, ⟨m1, hX.sV s2, m2, ⟨f30, ?_, f32, f35⟩, fun _ => ⟨m3, m4, m5, f36⟩, ?_⟩, ?_⟩
      · rw [f31]
        split <;> rfl
      · exact hK.view VE.s41 (s2.2 28 (by omega) (by omega)) (s2.2 29 (by omega) (by omega)) (s2.1 47 (by omega) (by omega) (by omega) (by omega) (by omega))
      · have hD1 : RelD (sG g 41 r.2.2.2.2.1) 1 (if r.2.1 < pln g then 0 else 1) r.2.1 r.2.2.1 r.1 r.2.2.2 M1 := by
          refine ⟨t1, ⟨fun n hn => ?_, ?_⟩, e7, fun _ => ⟨?_, t2, e12, e13⟩, fun _ z => ?_⟩
          · rw [s1 28 (by omega) (by omega) (by omega) (by omega) (by omega)]; exact hDX.1 n hn
          · rw [q1 6 (by omega)]; exact hDX.2
          · rw [e8]
            split <;> rfl
          · refine e9 ?_
            by_cases hl : r.2.1 < pln g
            · exact hl
            · rw [if_neg hl] at z; omega
        exact hD1.fr (fun k' a b _ => s2.1 k' (by omega) (by omega) (by omega) (by omega) (by omega))
theorem pt_true {x y k : Nat} (hx : x ≤ 199) (hy : y ≤ 199) (hk : k ≤ 7) : ptB (nI x) (nI y) (nI k) = true := by
  have f : ∀ a m, a ≤ m → m < 2 ^ 31 → decide ((0 : Int32) ≤ nI a ∧ nI a ≤ nI m) = true := by
    intro a m h1 h2
    rw [decide_eq_true_eq, zero_nI]
    exact ⟨nI_le (by omega) (by omega), nI_le h1 h2⟩
  unfold ptB
  rw [f x 199 hx (by omega), f y 199 hy (by omega), f k 7 hk (by omega)]
  rfl
theorem op_place {X Y K : Int32} (h : RX M) (k : ∀ r M', M' 1000 = M 1000 → RX M' → Q r r M') : CE E (d + 4) n_D_place [.inr 0, .inl X, .inl Y, .inl K] M (fun r1 M1 => CE E (d + 4) n_M_place [.inr 31, .inl X, .inl Y, .inl K] M1 (fun r2 M2 => Q r1 r2 M2)) := by
  obtain ⟨g, hr, ov, i, t, stp, rs, hI, hM, hD⟩ := id h
  obtain ⟨⟨hW, hp, hL, hRg⟩, ⟨h19, hmis⟩, ⟨hpa, hst⟩, ⟨hhr, hov⟩, hrb, hri, hout⟩ := id hI
  have inj : ∀ a b, a < 2 ^ 31 → b < 2 ^ 31 → nI a = nI b → a = b := fun a b ha hb e => (nI_eq ha hb).mp e
  refine c_D_place (d := d + 1) hD.1 hW hp hL hRg (fun c0 => ?_) (fun x y k' ex ey ek hx hy hk hn hbad => ?_) (fun x y k' ex ey ek hx hy hk hn ho hr0 M1 s1 hD1 e7 => ?_)
  · refine c_M_place hM.1 hW hp.2.2 (fun _ => k _ M rfl h) (fun x y k' ex ey ek hx hy hk hn _ => ?_) (fun x y k' ex ey ek hx hy hk hn _ _ => ?_)
    · rw [ex, ey, ek, pt_true hx hy hk] at c0
      simp at c0
      omega
    · rw [ex, ey, ek, pt_true hx hy hk] at c0
      simp at c0
      omega
  · subst ex ey ek
    refine c_M_place hM.1 hW hp.2.2 (fun c0 => ?_) (fun x2 y2 k2 ex ey ek hx2 hy2 hk2 _ _ M2 s2 hR2 f16 f28 f30 => ?_) (fun x2 y2 k2 ex ey ek hx2 hy2 hk2 _ ho hr0 => ?_)
    · rw [pt_true hx hy hk] at c0
      simp at c0
      omega
    · have e1 := inj _ _ (by omega) (by omega) ex
      have e2 := inj _ _ (by omega) (by omega) ey
      have e3 := inj _ _ (by omega) (by omega) ek
      subst e1 e2 e3
      have hM2 : RelM (gP g x y k') hr ov i t stp rs M2 := by
        obtain ⟨hC, hX, h48, hs, hMr, hK⟩ := hM
        have o : ∀ j, j ≠ 4 → j ≠ 16 → j ≠ 30 → j ≠ 28 → M2 31 j = M 31 j := s2.2
        refine ⟨hR2, ⟨fun n => ?_, ?_⟩, fun p => ?_, ?_, fun z => ?_, ?_⟩
        · rw [s2.1 43 (by omega) (by omega) (by omega) (by omega) (by omega)]; exact hX.1 n
        · rw [o 19 (by omega) (by omega) (by omega) (by omega)]; exact hX.2
        · rw [s2.1 48 (by omega) (by omega) (by omega) (by omega) (by omega)]; exact h48 p
        · rw [f30, o 31 (by omega) (by omega) (by omega) (by omega), o 32 (by omega) (by omega) (by omega) (by omega), o 35 (by omega) (by omega) (by omega) (by omega)]
          exact hs
        · have hz := hMr z
          unfold HM at *
          rw [o 21 (by omega) (by omega) (by omega) (by omega), o 22 (by omega) (by omega) (by omega) (by omega), o 23 (by omega) (by omega) (by omega) (by omega), o 24 (by omega) (by omega) (by omega) (by omega), o 33 (by omega) (by omega) (by omega) (by omega), o 34 (by omega) (by omega) (by omega) (by omega), o 36 (by omega) (by omega) (by omega) (by omega)]
          exact hz
        · exact hK.view VE.pl f28 (o 29 (by omega) (by omega) (by omega) (by omega)) (s2.1 47 (by omega) (by omega) (by omega) (by omega) (by omega))
      have hD2 : RelD (gP g x y k') hr ov i t stp rs M2 := by
        have hD1 : RelD (gP g x y k') hr ov i t stp rs M := ⟨hD.1.pl x y k', hD.2⟩
        exact hD1.fr (fun k1 a b c => s2.1 k1 (by omega) (by omega) (by omega) (by omega) (by omega))
      refine k _ M2 (s2.1 1000 (by omega) (by omega) (by omega) (by omega) (by omega)) ⟨gP g x y k', hr, ov, i, t, stp, rs, ⟨⟨hW.pl hx hy (by omega), hp, hL, ?_⟩, ⟨h19, hmis⟩, ⟨hpa, hst⟩, ⟨hhr, hov⟩, hrb, hri, hout⟩, hM2, hD2⟩
      exact fun z => hRg ((Rg_cong (fun a b ha hb => gP_ah ha hb)).mp z)
    · have e1 := inj _ _ (by omega) (by omega) ex
      have e2 := inj _ _ (by omega) (by omega) ey
      have e3 := inj _ _ (by omega) (by omega) ek
      subst e1 e2 e3
      rcases hbad with q | q
      · rw [ho] at q; exact absurd q (by decide)
      · exact absurd q hr0
  · subst ex ey ek
    have hM1 : RelM g hr ov i t stp rs M1 := hM.fr (fun k1 a b _ _ _ _ _ => s1.1 k1 (by omega) (by omega) (by omega) (by omega) (by omega) (by omega) (by omega) (by omega))
    refine c_M_place hM1.1 hW hp.2.2 (fun c0 => ?_) (fun x2 y2 k2 ex ey ek hx2 hy2 hk2 _ hbad => ?_) (fun x2 y2 k2 ex ey ek hx2 hy2 hk2 _ _ _ M2 s2 hR2 f28 f30 => ?_)
    · rw [pt_true hx hy hk] at c0
      simp at c0
      omega
    · have e1 := inj _ _ (by omega) (by omega) ex
      have e2 := inj _ _ (by omega) (by omega) ey
      have e3 := inj _ _ (by omega) (by omega) ek
      subst e1 e2 e3
      rcases hbad with q | q
      · rw [ho] at q; exact absurd q (by decide)
      · exact absurd q hr0
    · have e1 := inj _ _ (by omega) (by omega) ex
      have e2 := inj _ _ (by omega) (by omega) ey
      have e3 := inj _ _ (by omega) (by omega) ek
      subst e1 e2 e3
      obtain ⟨hC, hX, h48, hs, hMr, hK⟩ := hM1
      have o : ∀ j, j ≠ 4 → j ≠ 16 → j ≠ 30 → j ≠ 28 → M2 31 j = M1 31 j := s2.2
      have fr : ∀ k1, k1 < 31 → M2 k1 = M1 k1 := fun k1 a => s2.1 k1 (by omega) (by omega) (by omega) (by omega) (by omega)
      refine k _ M2 ((s2.1 1000 (by omega) (by omega) (by omega) (by omega) (by omega)).trans (s1.1 1000 (by omega) (by omega) (by omega) (by omega) (by omega) (by omega) (by omega) (by omega))) ?_
      refine RX.mk0 (g := gP2 g x y k') (ov := ov) (i := i) (t := t) (st := rs.1) ⟨hW.p2 hn hx hy hk, hp.p2, hL.p2, hr0⟩ ⟨h19, hmis⟩ hst (fun p z => hout p (by have z : pls g + 1 ≤ p := z; omega)) (fun p => ?_) hov hR2 ⟨fun n => ?_, ?_⟩ f30 ?_ ?_ ?_ (Or.inl f28) (hD1.fr (fun k1 a b => fr k1 (by omega))) ⟨fun n hnn => ?_, ?_⟩ ?_
      · rw [s2.1 48 (by omega) (by omega) (by omega) (by omega) (by omega)]; exact h48 p
      · rw [s2.1 43 (by omega) (by omega) (by omega) (by omega) (by omega)]; exact hX.1 n
      · rw [o 19 (by omega) (by omega) (by omega) (by omega)]; exact hX.2
      · rw [o 31 (by omega) (by omega) (by omega) (by omega)]; exact hs.2.1
      · rw [o 32 (by omega) (by omega) (by omega) (by omega)]; exact hs.2.2.1
      · rw [o 35 (by omega) (by omega) (by omega) (by omega)]; exact hs.2.2.2
      · rw [fr 28 (by omega), s1.1 28 (by omega) (by omega) (by omega) (by omega) (by omega) (by omega) (by omega) (by omega)]; exact hD.2.1.1 n hnn
      · rw [fr 26 (by omega), s1.2 6 (by omega)]; exact hD.2.1.2
      · rw [fr 26 (by omega)]; exact e7
end OP
