/-! A run: what it keeps; the desk's run. -/
def RI0 (g : GS) (i : Nat) (rs : RS) : Prop := rsB rs ∧ i ≤ pln g ∧ rs.2.2.2.1 ≤ 320 * i ∧ (i < pln g → bgn g i = true) ∧ ∀ j, i ≤ j → j < pln g → rs.1 (plc g j) ≠ 1
theorem goR_RI {g : GS} (hW : Wk g) (hp : Wp g) (h19 : g 31 19 ≤ 3) : ∀ (f i t : Nat) (rs : RS), RI0 g i rs → RI0 g (goR g f i t rs).2.1 (goR g f i t rs).2.2.2
  | 0, i, t, rs, h => h
  | f + 1, i, t, rs, h => by
    have hg := goR_b hW h19 (f + 1) i t rs h.1 h.2.2.1 h.2.1
    have hn := hW.2.1
    rw [goR] at hg ⊢
    split
    · next hi =>
      have hen := enT_le g hi
      have h3 := h.2.2.1
      have hb := toR_b hW h19 (i := i) (e := enT g i) (by omega) (by omega) h.1 (by omega)
      split
      · next hs =>
        refine goR_RI hW hp h19 f (enT g i) (t + 1) _ ⟨hb.1, by omega, by have := hb.2; omega, fun hl => ?_, fun j a b => toR_ne1 hp (by omega) b (fun _ => a) (h.2.2.2.2 j (by omega) b)⟩
        have : fst (fun j => bgn g j) (pln g - (i + 1)) (i + 1) < (i + 1) + (pln g - (i + 1)) := by
          show enT g i < _
          omega
        exact fst_yes _ _ _ this
      · next hs =>
        rw [if_pos hi, if_neg hs] at hg
        exact ⟨hg.1, hg.2.2, hg.2.1, h.2.2.2.1, fun j a b => toR_ne1 hp (by omega) b (fun z => absurd z hs) (h.2.2.2.2 j a b)⟩
    · exact h
theorem ru0_RI {g : GS} (hW : Wk g) (hp : Wp g) {hr ov i t : Nat} {rs : RS} (hst : ∀ p, rs.1 p ≤ 2) (hpa : ∀ s, s < 8 → rs.2.1 s ≤ 100) (h : hr ≠ 0 → ov = 0 → RI0 g i rs) : RI0 g (ru0 hr ov i t rs).1 (ru0 hr ov i t rs).2.2 := by
  unfold ru0
  split
  · next c => exact h c.1 c.2
  · refine ⟨⟨fun q => ?_, hpa, ⟨Nat.zero_le _, Nat.zero_le _, Nat.zero_le _⟩, by show 0 < 2 ^ 20; omega⟩, Nat.zero_le _, Nat.zero_le _, fun hl => hp.2.1 hl, fun j _ b => ?_⟩
    · show z10 rs.1 q ≤ 2
      unfold z10
      split
      · omega
      · exact hst q
    · show z10 rs.1 (plc g j) ≠ 1
      have := (hW.2.2.2.2.2.2.2.2 j b).2
      have := hW.1
      unfold z10
      rw [if_pos (by omega)]
      omega
theorem ruN_RI {g : GS} (hW : Wk g) (hp : Wp g) (h19 : g 31 19 ≤ 3) {hr ov i t : Nat} {rs : RS} (hst : ∀ p, rs.1 p ≤ 2) (hpa : ∀ s, s < 8 → rs.2.1 s ≤ 100) (h : hr ≠ 0 → ov = 0 → RI0 g i rs) : RI0 g (ruN g hr ov i t rs).2.1 (ruN g hr ov i t rs).2.2.2 := goR_RI hW hp h19 10 _ _ _ (ru0_RI hW hp hst hpa h)
section DZ
variable {E : Env0} {d : Nat} {M : Mem} {Q : Int32 → Mem → Prop} {g : GS} {rs : RS}
theorem c_T_begin (hD : DC (sG g 41 rs.2.1) M) (k : ∀ M', sF M M' → (∀ j, j < 7 ∨ 15 < j → M' 26 j = M 26 j) → DT g (z10 rs.1, rs.2.1, (0, 0, 0, 0), 0, 0) M' → M' 26 7 = 1 → M' 26 8 = 0 → M' 26 9 = 0 → M' 26 12 = 0 → Q 0 M') : CE E (d + 1) n_T_begin [.inr 26] M Q := by
  refine CE_of rfl (b_T_begin_0 ⟨z01_1, z01_0, c_H_restart_27 (fun M1 s1 H1 => ?_)⟩)
  have e1 : M1 26 = mset (mset M 26 7 1) 26 8 0 26 := s1 26 (by omega)
  have ne : ∀ k, k ≠ 26 → mset (mset (mset (mset (mset (mset M1 26 9 0) 26 10 0) 26 11 0) 26 12 0) 26 14 0) 26 15 0 k = M1 k := by
    intro k hk
    rw [mset_ne _ _ _ hk, mset_ne _ _ _ hk, mset_ne _ _ _ hk, mset_ne _ _ _ hk, mset_ne _ _ _ hk, mset_ne _ _ _ hk]
  have ne2 : ∀ k, k ≠ 26 → k ≠ 27 → mset (mset (mset (mset (mset (mset M1 26 9 0) 26 10 0) 26 11 0) 26 12 0) 26 14 0) 26 15 0 k = M k := by
    intro k a b
    rw [ne k a, s1 k b, mset_ne _ _ _ a, mset_ne _ _ _ a]
  have bz : ∀ v, v ≠ 0 → bitsOf (fun p => z10 rs.1 p == v) 10 = 0 := by
    intro v hv
    apply bits_ext
    intro q
    rw [bitsOf_bit, Nat.zero_testBit]
    by_cases hq : q < 10
    · have : (z10 rs.1 q == v) = false := by
        unfold z10
        rw [if_pos hq]
        simpa using fun h : 0 = v => hv h.symm
      rw [this, Bool.and_false]
    · simp [hq]
  refine k _ (fun k a b c _ _ => ne2 k b c) (fun j hj => ?_) ⟨hD.fr (fun k a b => ne2 k (by omega) (by omega)), ?_, ?_, ?_, ?_, ?_⟩ ?_ ?_ ?_ ?_
  · simp only [mset_eq, upd, e1]
    rw [if_neg (by omega), if_neg (by omega), if_neg (by omega), if_neg (by omega), if_neg (by omega), if_neg (by omega), if_neg (by omega), if_neg (by omega)]
  · rw [show (fun p => ((z10 rs.1, rs.2.1, (0, 0, 0, 0), 0, 0) : RS).1 p == 1) = fun p => z10 rs.1 p == 1 from rfl, bz 1 (by omega)]
    simp only [mset_eq, upd]
    rfl
  · rw [show (fun p => ((z10 rs.1, rs.2.1, (0, 0, 0, 0), 0, 0) : RS).1 p == 2) = fun p => z10 rs.1 p == 2 from rfl, bz 2 (by omega)]
    simp only [mset_eq, upd]
    rfl
  · unfold HD at H1 ⊢
    rw [ne 27 (by omega)]
    exact H1
  · simp only [mset_eq, upd]; rfl
  · simp only [mset_eq, upd]; rfl
  · simp only [mset_eq, upd, e1]; rfl
  · simp only [mset_eq, upd, e1]; rfl
  · simp only [mset_eq, upd]; rfl
  · simp only [mset_eq, upd]; rfl
theorem c_D_run {hr ov i t : Nat} (hD : DC (sG g 41 rs.2.1) M) (hX : DX g M) (hW : Wk g) (hp : Wp g) (hst : ∀ p, rs.1 p ≤ 2) (hpa : ∀ s, s < 8 → rs.2.1 s ≤ 100) (h19 : g 31 19 ≤ 3) (hmis : ∀ n, g 43 n ≤ 1) (hhr : hr ≤ 1) (hov : ov ≤ 1) (hri : hr ≠ 0 → ov = 0 → RI0 g i rs) (h7 : M 26 7 = nI hr) (h8 : hr ≠ 0 → M 26 8 = nI ov) (hgo : hr ≠ 0 → ov = 0 → DT g rs M ∧ M 26 9 = nI i ∧ M 26 12 = nI t)
    (k0 : gdB g = false → Q (-1) M)
    (k1 : gdB g = true → ∀ M', sF M M' → (∀ j, j < 7 ∨ 15 < j → M' 26 j = M 26 j) → DT g (ruN g hr ov i t rs).2.2.2 M' → M' 26 7 = 1 → M' 26 8 = (if (ruN g hr ov i t rs).2.1 < pln g then 0 else 1) → ((ruN g hr ov i t rs).2.1 < pln g → M' 26 9 = nI (ruN g hr ov i t rs).2.1) → M' 26 12 = nI (ruN g hr ov i t rs).2.2.1 → M' 26 13 = nI (ruN g hr ov i t rs).1 - 1 → Q (nI (ruN g hr ov i t rs).2.2.2.2.2.1.2.2.2) M') : CE E (d + 6) n_D_run [.inr 0] M Q := by
  have hW1 := hW.sG41 hpa
  refine CE_of rfl (b_D_run_0 (c_K_isGood (g := sG g 41 rs.2.1) hD hW1 hp ⟨fun c1 => ?_, fun c1 => k0 (by rw [gdB_41] at c1; exact b2_z.mp c1)⟩))
  rw [gdB_41, b2_nz] at c1
  have k1 := k1 c1
  have hI := ru0_RI hW hp (t := t) hst hpa hri
  generalize hN : ruN g hr ov i t rs = r at k1
  unfold ruN at hN
  have fresh : ¬ (hr ≠ 0 ∧ ov = 0) → CE E (d + 5) n_T_begin [.inr 26] M (fun _ M2 => CE E (d + 5) n_T_goOn [.inr 26] M2 (fun _ M3 => Q (M3 27 3) M3)) := by
    intro hc
    unfold ru0 at hN hI
    rw [if_neg hc] at hN hI
    refine c_T_begin hD (fun M1 s1 q1 hD1 e7 e8 e9 e12 => ?_)
    have hX1 : DX g M1 := ⟨fun n hn => by rw [s1 28 (by omega) (by omega) (by omega) (by omega) (by omega)]; exact hX.1 n hn, by rw [q1 6 (by omega)]; exact hX.2⟩
    refine c_T_goOn (i := 0) (t := 0) hD1 hX1 hW hp hI.1 h19 hmis hI.2.1 hI.2.2.2.1 hI.2.2.1 hI.2.2.2.2 e9 e12 (fun M2 s2 q2 hD2 e13 f12 f9 f8 => ?_)
    rw [show goR g 10 0 0 (z10 rs.1, rs.2.1, (0, 0, 0, 0), 0, 0) = r from hN] at hD2 e13 f12 f9 f8
    rw [show M2 27 3 = nI r.2.2.2.2.2.1.2.2.2 from hD2.2.2.2.1.2.2.2]
    refine k1 M2 (s1.tr s2) (fun j hj => (q2 j (by omega)).trans (q1 j hj)) hD2 ?_ ?_ (fun hl => (f9 hl).1) f12 e13
    · rw [q2 7 (by omega)]; exact e7
    · split
      · next hl => rw [(f9 hl).2]; exact e8
      · next hl => exact f8 hl
  rw [h7, zero_nI, nI_eq (by omega) (by omega)]
  refine ⟨fun c2 => fresh (by omega), fun c2 => ?_⟩
  rw [h8 c2, nI_eq (by omega) (by omega)]
  refine ⟨fun c3 => ?_, fun c3 => fresh (by omega)⟩
  unfold ru0 at hN hI
  rw [if_pos ⟨c2, c3⟩] at hN hI
  obtain ⟨hD1, e9, e12⟩ := hgo c2 c3
  refine c_T_goOn (i := i) (t := t) hD1 hX hW hp hI.1 h19 hmis hI.2.1 hI.2.2.2.1 hI.2.2.1 hI.2.2.2.2 e9 e12 (fun M2 s2 q2 hD2 e13 f12 f9 f8 => ?_)
  rw [show goR g 10 i t rs = r from hN] at hD2 e13 f12 f9 f8
  rw [show M2 27 3 = nI r.2.2.2.2.2.1.2.2.2 from hD2.2.2.2.1.2.2.2]
  refine k1 M2 s2 (fun j hj => q2 j (by omega)) hD2 ?_ ?_ (fun hl => (f9 hl).1) f12 e13
  · rw [q2 7 (by omega), h7, show hr = 1 by omega]
    rfl
  · split
    · next hl => rw [(f9 hl).2, h8 c2, c3]; rfl
    · next hl => exact f8 hl
end DZ
