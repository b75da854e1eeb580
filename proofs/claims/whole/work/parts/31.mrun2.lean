/-! The reference: a run, whole. -/
def z10 (st : Nat → Nat) : Nat → Nat := fun p => if p < 10 then 0 else st p
/-- from where a run goes: on, or anew -/
def ru0 (hr ov i t : Nat) (rs : RS) : Nat × Nat × RS := if hr ≠ 0 ∧ ov = 0 then (i, t, rs) else (0, 0, (z10 rs.1, rs.2.1, (0, 0, 0, 0), 0, 0))
def ruN (g : GS) (hr ov i t : Nat) (rs : RS) : Nat × Nat × Nat × RS := goR g 10 (ru0 hr ov i t rs).1 (ru0 hr ov i t rs).2.1 (ru0 hr ov i t rs).2.2
theorem gdF_41 (g : GS) (pa : Nat → Nat) : ∀ n i c, gdF (sG g 41 pa) n i c = gdF g n i c
  | 0, _, _ => rfl
  | n + 1, i, c => by
    rw [gdF, gdF, gdF_41 g pa n]
    rfl
theorem gdB_41 (g : GS) (pa : Nat → Nat) : gdB (sG g 41 pa) = gdB g := by
  unfold gdB
  rw [gdF_41]
  rfl
section RX
variable {E : Env0} {d : Nat} {M : Mem} {Q : Int32 → Mem → Prop} {g : GS} {rs : RS}
/-- what a run may change -/
def sV (M M' : Mem) : Prop := (∀ k, k ≠ 31 → k ≠ 41 → k ≠ 48 → k ≠ 49 → k ≠ 50 → M' k = M k) ∧ ∀ j, (j < 21 ∨ 24 < j) → (j < 30 ∨ 36 < j) → M' 31 j = M 31 j
theorem sV.rf : sV M M := ⟨fun _ _ _ _ _ _ => rfl, fun _ _ _ => rfl⟩
theorem sV.tr {M1 M2 : Mem} (h1 : sV M M1) (h2 : sV M1 M2) : sV M M2 := ⟨fun k a b c d e => (h2.1 k a b c d e).trans (h1.1 k a b c d e), fun j a b => (h2.2 j a b).trans (h1.2 j a b)⟩
theorem sV.ofU {M' : Mem} (h : sU M M') : sV M M' := ⟨h.1, fun j a b => h.2 j a (by omega)⟩
theorem sV.set31 (j : Nat) (x : Int32) (h : (21 ≤ j ∧ j ≤ 24) ∨ (30 ≤ j ∧ j ≤ 36)) : sV M (mset M 31 j x) := by
  refine ⟨fun k' a _ _ _ _ => mset_ne M j x a, fun j' h1 h2 => ?_⟩
  rw [mset_eq]
  unfold upd
  rw [if_neg (by omega)]
theorem sV.set48 (j : Nat) (x : Int32) : sV M (mset M 48 j x) := ⟨fun k' _ _ c _ _ => mset_ne M j x c, fun j' _ _ => by rw [mset_ne M j x (by omega)]⟩
theorem MX.sV (hX : MX g M) {M' : Mem} (h : sV M M') : MX g M' := ⟨fun n => by rw [h.1 43 (by omega) (by omega) (by omega) (by omega) (by omega)]; exact hX.1 n, by rw [h.2 19 (by omega) (by omega)]; exact hX.2⟩
theorem MR.set31 (h : MR g rs M) (j : Nat) (x : Int32) (hj : 25 ≤ j) (h3 : j ≠ 33) (h4 : j ≠ 34) : MR g rs (mset M 31 j x) := by
  refine h.fr ⟨fun k' a b => mset_ne M j x (by omega), mset_ne M j x (by omega), fun j' hj' => ?_⟩
  rw [mset_eq]
  unfold upd
  rw [if_neg (by omega)]
theorem goR_b (hW : Wk g) (h19 : g 31 19 ≤ 3) : ∀ (f i t : Nat) (rs : RS), rsB rs → rs.2.2.2.1 ≤ 320 * i → i ≤ pln g → rsB (goR g f i t rs).2.2.2 ∧ (goR g f i t rs).2.2.2.2.2.2.1 ≤ 320 * (goR g f i t rs).2.1 ∧ (goR g f i t rs).2.1 ≤ pln g
  | 0, i, t, rs, h1, h2, h3 => ⟨h1, h2, h3⟩
  | f + 1, i, t, rs, h1, h2, h3 => by
    have hn := hW.2.1
    rw [goR]
    split
    · next hi =>
      have hen := enT_le g hi
      have hb := toR_b hW h19 (i := i) (e := enT g i) (by omega) (by omega) h1 (by omega)
      split
      · exact goR_b hW h19 f (enT g i) (t + 1) _ hb.1 (by have := hb.2; omega) (by omega)
      · next hs =>
        refine ⟨hb.1, ?_, h3⟩
        show (toR g i (enT g i) rs).2.2.2.2.1 ≤ 320 * i
        have : (toR g i (enT g i) rs).2.2.2.2.1 = rs.2.2.2.1 := by
          unfold toR at hs ⊢
          split
          · next c1 =>
            rw [if_pos c1] at hs
            split
            · next c2 =>
              rw [if_pos c2] at hs
              exact absurd rfl hs
            · rfl
          · rfl
        omega
    · exact ⟨h1, h2, h3⟩
theorem c_M_run {hr ov i t : Nat} (hR : RC (sG g 41 rs.2.1) M) (h48 : ∀ p, M 48 p = nI (rs.1 p)) (hX : MX g M) (hW : Wk g) (hp : Wp g) (hst9 : ∀ p, rs.1 p ≤ 2) (hpa : ∀ s, s < 8 → rs.2.1 s ≤ 100) (h19 : g 31 19 ≤ 3) (hmis : ∀ n, g 43 n ≤ 1) (hhr : hr ≤ 1) (hov : ov ≤ 1) (hgo : hr ≠ 0 → ov = 0 → MR g rs M ∧ rsB rs ∧ i ≤ pln g ∧ rs.2.2.2.1 ≤ 320 * i) (h30 : M 31 30 = nI hr) (h31 : M 31 31 = nI ov) (h32 : M 31 32 = nI i) (h35 : M 31 35 = nI t)
    (k0 : gdB g = false → Q (-1) M)
    (k1 : gdB g = true → ∀ M', sV M M' → MR g (ruN g hr ov i t rs).2.2.2 M' → M' 31 30 = 1 → M' 31 31 = (if (ruN g hr ov i t rs).2.1 < pln g then 0 else 1) → M' 31 32 = nI (ruN g hr ov i t rs).2.1 → M' 31 35 = nI (ruN g hr ov i t rs).2.2.1 → M' 31 36 = nI (ruN g hr ov i t rs).1 - 1 → Q (nI (ruN g hr ov i t rs).2.2.2.2.2.1.2.2.2) M') : CE E (d + 4) n_M_run [.inr 31] M Q := by
  have hn := hW.2.1
  have hp10 := hW.1
  refine CE_of rfl (b_M_run_0 (c_M_isGood (g := sG g 41 rs.2.1) hR (hW.sG41 hpa) ⟨fun c1 => ?_, fun c1 => k0 (by rw [gdB_41] at c1; exact b2_z.mp c1)⟩))
  rw [gdB_41, b2_nz] at c1
  have k1 := k1 c1
  generalize hN : ruN g hr ov i t rs = r at k1
  unfold ruN at hN
  -- the tours
  have L80 : ∀ (f i t : Nat) (rs : RS) (M1 : Mem), pln g - i ≤ f → i ≤ pln g → rs.2.2.2.1 ≤ 320 * i → rsB rs → goR g f i t rs = r → sV M M1 → MR g rs M1 → M1 31 30 = 1 → M1 31 32 = nI i → M1 31 35 = nI t → M1 31 36 = -1 → JE E (d + 4) n_M_run 80 [some (.inr 31), some (.inl 1)] [] M1 Q := by
    intro f
    have over : ∀ (i t : Nat) (rs : RS) (M1 : Mem), i ≤ pln g → ¬ i < pln g → (0, i, t, rs) = r → sV M M1 → MR g rs M1 → M1 31 30 = 1 → M1 31 32 = nI i → M1 31 35 = nI t → M1 31 36 = -1 → JE E (d + 4) n_M_run 80 [some (.inr 31), some (.inl 1)] [] M1 Q := by
      intro i t rs M1 hi hil hr s1 hM1 e30 e32 e35 e36
      have h16 : M1 31 16 = nI (pln g) := hM1.1.2.2.2 16 (by omega) (by omega)
      have hT : M1 31 24 = nI rs.2.2.1.2.2.2 := hM1.2.2.1.2.2.2
      subst hr
      have fin : (M1 31 32 < M1 31 16 → Z01 0 ∧ Q (M1 31 24) (mset M1 31 31 0)) ∧ (¬ M1 31 32 < M1 31 16 → Z01 1 ∧ Q (M1 31 24) (mset M1 31 31 1)) := by
        rw [h16, e32]
        refine ⟨fun c2 => absurd c2 (by rw [nI_ltI (by omega) (by omega)]; omega), fun c2 => ⟨z01_1, ?_⟩⟩
        rw [hT]
        refine k1 _ (s1.tr (sV.set31 31 _ (by omega))) (hM1.set31 31 _ (by omega) (by omega) (by omega)) ?_ ?_ ?_ ?_ ?_ <;> rw [mset_eq] <;> simp only [upd] <;> simp
        · exact e30
        · omega
        · exact e32
        · exact e35
        · exact e36
      refine b_M_run_80 _ ⟨fun c2 => absurd c2 (by decide), fun _ => ⟨fun c3 => fin, fun c3 => absurd ?_ c3⟩⟩
      rw [h16, e32]
      exact nI_le (by omega) (by omega)
    induction f with
    | zero =>
      intro i t rs M1 hf hi htk hb1 hr s1 hM1 e30 e32 e35 e36
      exact over i t rs M1 hi (by omega) hr s1 hM1 e30 e32 e35 e36
    | succ f ih =>
      intro i t rs M1 hf hi htk hb1 hr s1 hM1 e30 e32 e35 e36
      rw [goR] at hr
      by_cases hil : i < pln g
      · rw [if_pos hil] at hr
        have h16 : M1 31 16 = nI (pln g) := hM1.1.2.2.2 16 (by omega) (by omega)
        have hen := enT_le g hil
        have hbT := toR_b hW h19 (i := i) (e := enT g i) (by omega) (by omega) hb1 (by omega)
        refine b_M_run_80 _ ⟨fun c2 => absurd c2 (by decide), fun _ => ⟨fun c3 => absurd c3 (by rw [h16, e32]; exact nI_ge (by omega) (by omega)), fun _ => ?_⟩⟩
        refine c_M_tour hM1 (hX.sV s1) hW hp hb1 h19 hmis hil e32 e35 (by omega) (fun hs M2 s2 hM2 q32 q35 q36 => ?_) (fun hs M2 s2 hM2 q32 q35 q36 => ?_)
        · rw [if_neg hs] at hr
          subst hr
          have g16 : M2 31 16 = nI (pln g) := hM2.1.2.2.2 16 (by omega) (by omega)
          have hT : M2 31 24 = nI (toR g i (enT g i) rs).2.2.2.1.2.2.2 := hM2.2.2.1.2.2.2
          have f30 : M2 31 30 = 1 := by rw [s2.2 30 (by omega) (by omega)]; exact e30
          have est : nI ((toR g i (enT g i) rs).1 - 1) = nI (toR g i (enT g i) rs).1 - 1 := by
            have : nI (toR g i (enT g i) rs).1 = nI ((toR g i (enT g i) rs).1 - 1) + 1 := by
              rw [nI_1]
              congr 1
              omega
            rw [this, Int32.add_sub_cancel]
          refine b_M_run_80 _ ⟨fun _ => ⟨fun _ => ⟨z01_0, ?_⟩, fun c3 => absurd (by rw [g16, q32, nI_ltI (by omega) (by omega)]; exact hil) c3⟩, fun c2 => absurd rfl c2⟩
          rw [hT]
          refine k1 _ ((s1.tr (sV.ofU s2)).tr (sV.set31 31 _ (by omega))) (hM2.set31 31 _ (by omega) (by omega) (by omega)) ?_ ?_ ?_ ?_ ?_ <;> rw [mset_eq] <;> simp only [upd] <;> simp
          · exact f30
          · exact hil
          · exact q32
          · exact q35
          · rw [q36]; exact est
        · rw [if_pos hs] at hr
          refine ih (enT g i) (t + 1) _ M2 (by omega) (by omega) (by have := hbT.2; omega) hbT.1 hr (s1.tr (sV.ofU s2)) hM2 ?_ q32 q35 (q36.trans e36)
          rw [s2.2 30 (by omega) (by omega)]
          exact e30
      · rw [if_neg hil] at hr
        exact over i t rs M1 hi hil hr s1 hM1 e30 e32 e35 e36
  -- anew
  have fresh : ¬ (hr ≠ 0 ∧ ov = 0) → CE E (d + 3) n_M_begins0 [.inr 31] M (fun _ M2 => JE E (d + 3 + 1) n_M_run 49 [some (.inr 31), some (.inl 0)] [] (mset (mset (mset (mset M2 31 32 0) 31 33 0) 31 34 0) 31 35 0) Q) := by
    intro hc
    unfold ru0 at hN
    rw [if_neg hc] at hN
    have L49 : ∀ (n p : Nat) (st : Nat → Nat) (M1 : Mem), p + n = 10 → (∀ q, q < p → st q = 0) → (∀ q, 10 ≤ q → st q = rs.1 q) → MR g (st, rs.2.1, (0, 0, 0, 0), 0, 0) M1 → sV M M1 → M1 31 32 = 0 → M1 31 35 = 0 → JE E (d + 4) n_M_run 49 [some (.inr 31), some (.inl (nI p))] [] M1 Q := by
      intro n
      induction n with
      | zero =>
        intro p st M1 hpn hst hst2 hM1 s1 e32 e35
        have est : st = z10 rs.1 := by
          funext q
          unfold z10
          split
          · exact hst q (by omega)
          · exact hst2 q (by omega)
        rw [est] at hM1
        refine b_M_run_49 _ ⟨fun _ => ⟨z01_1, ?_⟩, fun c2 => absurd (nI_le (a := 10) (by omega) (by omega)) c2⟩
        refine L80 10 0 0 (z10 rs.1, rs.2.1, (0, 0, 0, 0), 0, 0) _ (by omega) (by omega) (Nat.le_refl _) ⟨fun q => ?_, hpa, ⟨Nat.zero_le _, Nat.zero_le _, Nat.zero_le _⟩, by show 0 < 2 ^ 20; omega⟩ hN ((s1.tr (sV.set31 30 _ (by omega))).tr (sV.set31 36 _ (by omega))) ((hM1.set31 30 _ (by omega) (by omega) (by omega)).set31 36 _ (by omega) (by omega) (by omega)) ?_ ?_ ?_ ?_
        · show z10 rs.1 q ≤ 2
          unfold z10
          split
          · omega
          · exact hst9 q
        all_goals
          simp only [mset_eq, upd]
          simp
        · exact e32
        · exact e35
      | succ n ih =>
        intro p st M1 hpn hst hst2 hM1 s1 e32 e35
        have e31 : ∀ x, mset M1 48 p x 31 = M1 31 := fun x => mset_ne _ _ _ (by omega)
        refine b_M_run_49 _ ⟨fun c2 => absurd c2 (nI_ge (b := 10) (by omega) (by omega)), fun _ => ⟨vp_in_nI (by omega) (by omega), ?_⟩⟩
        rw [nI_1, nI_clamp (by omega)]
        refine ih (p + 1) (fs st p 0) _ (by omega) (fun q hq => ?_) (fun q hq => ?_) (hM1.st p 0) (s1.tr (sV.set48 _ _)) (by rw [e31]; exact e32) (by rw [e31]; exact e35)
        · unfold fs
          split
          · rfl
          · exact hst q (by omega)
        · rw [fs_ne _ _ (by omega)]
          exact hst2 q hq
    refine CE_of rfl (b_M_begins0_0 ?_)
    refine L49 10 0 rs.1 _ (by omega) (fun q hq => by omega) (fun q _ => rfl) ?_ ?_ ?_ ?_
    · have s0 : sT M (mset (mset (mset (mset M 31 21 0) 31 22 0) 31 23 0) 31 24 0) := (((sT.set 21 _ (by omega) (by omega)).tr (sT.set 22 _ (by omega) (by omega))).tr (sT.set 23 _ (by omega) (by omega))).tr (sT.set 24 _ (by omega) (by omega))
      have hR1 := RC.sT hR s0
      have h481 : ∀ p, mset (mset (mset (mset M 31 21 0) 31 22 0) 31 23 0) 31 24 0 48 p = nI (rs.1 p) := fun p => by rw [s0.1 48 (by omega)]; exact h48 p
      have hH1 : HM (0, 0, 0, 0) (mset (mset (mset (mset M 31 21 0) 31 22 0) 31 23 0) 31 24 0) := by
        unfold HM
        simp only [mset_eq, upd]
        exact ⟨rfl, rfl, rfl, rfl⟩
      generalize mset (mset (mset (mset M 31 21 0) 31 22 0) 31 23 0) 31 24 0 = M1 at *
      have e48 : ∀ k, k ≠ 31 → mset (mset (mset (mset M1 31 32 0) 31 33 0) 31 34 0) 31 35 0 k = M1 k := by
        intro k hk
        rw [mset_ne _ _ _ hk, mset_ne _ _ _ hk, mset_ne _ _ _ hk, mset_ne _ _ _ hk]
      have e31 : ∀ j, j < 32 → mset (mset (mset (mset M1 31 32 0) 31 33 0) 31 34 0) 31 35 0 31 j = M1 31 j := by
        intro j hj
        simp only [mset_eq, upd]
        rw [if_neg (by omega), if_neg (by omega), if_neg (by omega), if_neg (by omega)]
      obtain ⟨r1, r2, r3, r4⟩ := hR1
      obtain ⟨a1, a2, a3, a4⟩ := hH1
      refine ⟨⟨fun k a b c j => ?_, fun j => ?_, ?_, fun j a b => ?_⟩, fun p => ?_, ⟨?_, ?_, ?_, ?_⟩, ?_, ?_⟩
      · rw [e48 k (by omega)]; exact r1 k a b c j
      · rw [e48 40 (by omega)]; exact r2 j
      · rw [e31 4 (by omega)]; exact r3
      · rw [e31 j (by omega)]; exact r4 j a b
      · rw [e48 48 (by omega)]; exact h481 p
      · rw [e31 21 (by omega)]; exact a1
      · rw [e31 22 (by omega)]; exact a2
      · rw [e31 23 (by omega)]; exact a3
      · rw [e31 24 (by omega)]; exact a4
      · simp only [mset_eq, upd]; rfl
      · simp only [mset_eq, upd]; rfl
    · exact (((((((sV.set31 21 _ (by omega)).tr (sV.set31 22 _ (by omega))).tr (sV.set31 23 _ (by omega))).tr (sV.set31 24 _ (by omega))).tr (sV.set31 32 _ (by omega))).tr (sV.set31 33 _ (by omega))).tr (sV.set31 34 _ (by omega))).tr (sV.set31 35 _ (by omega))
    · simp only [mset_eq, upd]; rfl
    · simp only [mset_eq, upd]; rfl
  refine ⟨fun c2 => ?_, fun c2 => ⟨fun c3 => ?_, fun c3 => ?_⟩⟩
  · rw [h30, zero_nI, nI_eq (by omega) (by omega)] at c2
    exact fresh (by omega)
  · rw [h30, zero_nI, nI_eq (by omega) (by omega)] at c2
    rw [h31, zero_nI, nI_eq (by omega) (by omega)] at c3
    unfold ru0 at hN
    rw [if_pos ⟨c2, c3⟩] at hN
    obtain ⟨hM, hb, g1, g2⟩ := hgo c2 c3
    refine L80 10 i t rs _ (by omega) g1 g2 hb hN (sV.set31 36 _ (by omega)) (hM.set31 36 _ (by omega) (by omega) (by omega)) ?_ ?_ ?_ ?_
    all_goals
      simp only [mset_eq, upd]
      simp
    · rw [h30, show hr = 1 by omega]; rfl
    · exact h32
    · exact h35
  · rw [h31, zero_nI, nI_eq (by omega) (by omega)] at c3
    exact fresh (by omega)
end RX
