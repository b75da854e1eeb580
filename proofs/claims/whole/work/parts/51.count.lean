/-! Counting. -/
def bcE (x0 : Int32) : Int32 := ((((((((x0 - (((Int32.toUInt32 x0 >>> (Int32.toUInt32 1 &&& Int32.toUInt32 31)).toInt32) &&& 1431655765)) &&& 858993459) + (((Int32.toUInt32 (x0 - (((Int32.toUInt32 x0 >>> (Int32.toUInt32 1 &&& Int32.toUInt32 31)).toInt32) &&& 1431655765)) >>> (Int32.toUInt32 2 &&& Int32.toUInt32 31)).toInt32) &&& 858993459)) + ((Int32.toUInt32 (((x0 - (((Int32.toUInt32 x0 >>> (Int32.toUInt32 1 &&& Int32.toUInt32 31)).toInt32) &&& 1431655765)) &&& 858993459) + (((Int32.toUInt32 (x0 - (((Int32.toUInt32 x0 >>> (Int32.toUInt32 1 &&& Int32.toUInt32 31)).toInt32) &&& 1431655765)) >>> (Int32.toUInt32 2 &&& Int32.toUInt32 31)).toInt32) &&& 858993459)) >>> (Int32.toUInt32 4 &&& Int32.toUInt32 31)).toInt32)) &&& 252645135) + ((Int32.toUInt32 (((((x0 - (((Int32.toUInt32 x0 >>> (Int32.toUInt32 1 &&& Int32.toUInt32 31)).toInt32) &&& 1431655765)) &&& 858993459) + (((Int32.toUInt32 (x0 - (((Int32.toUInt32 x0 >>> (Int32.toUInt32 1 &&& Int32.toUInt32 31)).toInt32) &&& 1431655765)) >>> (Int32.toUInt32 2 &&& Int32.toUInt32 31)).toInt32) &&& 858993459)) + ((Int32.toUInt32 (((x0 - (((Int32.toUInt32 x0 >>> (Int32.toUInt32 1 &&& Int32.toUInt32 31)).toInt32) &&& 1431655765)) &&& 858993459) + (((Int32.toUInt32 (x0 - (((Int32.toUInt32 x0 >>> (Int32.toUInt32 1 &&& Int32.toUInt32 31)).toInt32) &&& 1431655765)) >>> (Int32.toUInt32 2 &&& Int32.toUInt32 31)).toInt32) &&& 858993459)) >>> (Int32.toUInt32 4 &&& Int32.toUInt32 31)).toInt32)) &&& 252645135) >>> (Int32.toUInt32 8 &&& Int32.toUInt32 31)).toInt32)) + ((Int32.toUInt32 ((((((x0 - (((Int32.toUInt32 x0 >>> (Int32.toUInt32 1 &&& Int32.toUInt32 31)).toInt32) &&& 1431655765)) &&& 858993459) + (((Int32.toUInt32 (x0 - (((Int32.toUInt32 x0 >>> (Int32.toUInt32 1 &&& Int32.toUInt32 31)).toInt32) &&& 1431655765)) >>> (Int32.toUInt32 2 &&& Int32.toUInt32 31)).toInt32) &&& 858993459)) + ((Int32.toUInt32 (((x0 - (((Int32.toUInt32 x0 >>> (Int32.toUInt32 1 &&& Int32.toUInt32 31)).toInt32) &&& 1431655765)) &&& 858993459) + (((Int32.toUInt32 (x0 - (((Int32.toUInt32 x0 >>> (Int32.toUInt32 1 &&& Int32.toUInt32 31)).toInt32) &&& 1431655765)) >>> (Int32.toUInt32 2 &&& Int32.toUInt32 31)).toInt32) &&& 858993459)) >>> (Int32.toUInt32 4 &&& Int32.toUInt32 31)).toInt32)) &&& 252645135) + ((Int32.toUInt32 (((((x0 - (((Int32.toUInt32 x0 >>> (Int32.toUInt32 1 &&& Int32.toUInt32 31)).toInt32) &&& 1431655765)) &&& 858993459) + (((Int32.toUInt32 (x0 - (((Int32.toUInt32 x0 >>> (Int32.toUInt32 1 &&& Int32.toUInt32 31)).toInt32) &&& 1431655765)) >>> (Int32.toUInt32 2 &&& Int32.toUInt32 31)).toInt32) &&& 858993459)) + ((Int32.toUInt32 (((x0 - (((Int32.toUInt32 x0 >>> (Int32.toUInt32 1 &&& Int32.toUInt32 31)).toInt32) &&& 1431655765)) &&& 858993459) + (((Int32.toUInt32 (x0 - (((Int32.toUInt32 x0 >>> (Int32.toUInt32 1 &&& Int32.toUInt32 31)).toInt32) &&& 1431655765)) >>> (Int32.toUInt32 2 &&& Int32.toUInt32 31)).toInt32) &&& 858993459)) >>> (Int32.toUInt32 4 &&& Int32.toUInt32 31)).toInt32)) &&& 252645135) >>> (Int32.toUInt32 8 &&& Int32.toUInt32 31)).toInt32)) >>> (Int32.toUInt32 16 &&& Int32.toUInt32 31)).toInt32)) &&& 63)
theorem bc_key : ∀ b, b < 1024 → bcE (nI b) = nI (pc b 10) := by decide +kernel
theorem pc_cnt (b : Nat) : ∀ n, pc b n = cnt (fun i => b.testBit i) n 0
  | 0 => rfl
  | n + 1 => by
    rw [pc, cnt_last, Nat.zero_add, pc_cnt b n]
theorem cnt_cut {f : Nat → Bool} {n : Nat} : ∀ m, n ≤ m → cnt (fun i => decide (i < n) && f i) m 0 = cnt f n 0 := by
  intro m
  induction m with
  | zero =>
    intro h
    rw [show n = 0 by omega]
    rfl
  | succ m ih =>
    intro h
    by_cases e : n = m + 1
    · rw [e]
      apply cnt_cong
      intro j _ hj
      have : decide (j < m + 1) = true := by simp; omega
      rw [this, Bool.true_and]
    · rw [cnt_last, ih (by omega), Nat.zero_add]
      have : decide (m < n) = false := by simp; omega
      rw [this, Bool.false_and]
      rfl
theorem pc_bits {f : Nat → Bool} {n : Nat} (h : n ≤ 10) : pc (bitsOf f n) 10 = cnt f n 0 := by
  rw [pc_cnt]
  have : (fun i => (bitsOf f n).testBit i) = fun i => decide (i < n) && f i := by
    funext i
    rw [bitsOf_bit]
  rw [this, cnt_cut 10 h]
/-- sums of counts -/
def dS (A : Nat → Nat → Bool) : Nat → Nat → Nat
  | 0, _ => 0
  | n + 1, m => dS A n m + cnt (A n) m 0
theorem dS_col (A : Nat → Nat → Bool) (n : Nat) : ∀ m, dS (fun q p => A p q) m (n + 1) = dS (fun q p => A p q) m n + cnt (A n) m 0
  | 0 => rfl
  | m + 1 => by
    rw [dS, dS, dS_col A n m, cnt_last, cnt_last, Nat.zero_add]
    simp only [Nat.zero_add]
    omega
theorem dS_swap (A : Nat → Nat → Bool) (m : Nat) : ∀ n, dS A n m = dS (fun q p => A p q) m n
  | 0 => by
    have : ∀ m, dS (fun q p => A p q) m 0 = 0 := by
      intro m
      induction m with
      | zero => rfl
      | succ m ih => rw [dS, ih]; rfl
    rw [this]
    rfl
  | n + 1 => by
    rw [dS_col, dS, dS_swap A m n]
section CN
variable {E : Env0} {d : Nat} {M : Mem} {g : GS}
theorem c_JI_bitCount {Q : Int32 → Mem → Prop} {b : Nat} (hb : b < 1024) (h : Q (nI (pc b 10)) M) : CE E d n_JI_bitCount [.inl (nI b)] M Q := by
  refine CE_of rfl (b_JI_bitCount_0 _ ?_)
  have := bc_key b hb
  unfold bcE at this
  rw [this]
  exact h
theorem c_B_pairs {Q : Int32 → Mem → Prop} (hD : DC g M) (hW : Wk g) (h : Q (nI (dS (ahB g) (pls g) (pls g))) M) : CE E (d + 1) n_B_pairs [.inr 1] M Q := by
  have hp10 := hW.1
  have h4 : M 1 4 = nI (pls g) := hD.2.1.1
  have key : ∀ (n q : Nat), q + n = pls g → JE E (d + 1) n_B_pairs 4 [some (.inr 1), some (.inl (nI (dS (fun q p => ahB g p q) q (pls g)))), some (.inl (nI q))] [] M Q := by
    intro n
    induction n with
    | zero =>
      intro q hq
      refine b_B_pairs_4 _ _ ⟨fun _ => ?_, fun c1 => absurd (by rw [h4]; exact nI_le (by omega) (by omega)) c1⟩
      rw [show q = pls g by omega, ← dS_swap]
      exact h
    | succ n ih =>
      intro q hq
      have hl := bitsOf_lt (fun z => ahB g z q) (pls g)
      have hl2 : 2 ^ pls g ≤ 2 ^ 10 := Nat.pow_le_pow_right (by omega) hp10
      refine b_B_pairs_4 _ _ ⟨fun c1 => absurd c1 (by rw [h4]; exact nI_ge (by omega) (by omega)), fun _ => ⟨vp_in_nI (by omega) (by omega), ?_⟩⟩
      rw [nI_clamp (by omega), (hD.2.1.2.1 q (by omega)).2.2.2.1]
      refine c_JI_bitCount (by omega) ?_
      rw [pc_bits hp10, nI_1, nI_add]
      exact ih (q + 1) (by omega)
  exact CE_of rfl (b_B_pairs_0 (key (pls g) 0 (by omega)))
theorem c_M_pairs {Q : Int32 → Mem → Prop} (hR : RC g M) (hW : Wk g) (hp : Wp g) (h : Q (nI (dS (ahB g) (pls g) (pls g))) M) (o1 : Option V) : JE E (d + 3) n_M_count 90 [some (.inr 31), o1, some (.inl 0), some (.inl 0), none] [] M Q := by
  have hp10 := hW.1
  have h4 : M 31 4 = nI (pls g) := hR.2.2.1
  have key : ∀ (n p : Nat) (o4 : Option V), p + n = pls g → JE E (d + 3) n_M_count 90 [some (.inr 31), o1, some (.inl (nI (dS (ahB g) p (pls g)))), some (.inl (nI p)), o4] [] M Q := by
    intro n
    induction n with
    | zero =>
      intro p o4 hpn
      refine b_M_count_90 _ _ _ _ ⟨fun _ => ?_, fun c1 => absurd (by rw [h4]; exact nI_le (by omega) (by omega)) c1⟩
      rw [show p = pls g by omega]
      exact h
    | succ n ih =>
      intro p o4 hpn
      have inner : ∀ (m q : Nat), q + m = pls g → JE E (d + 3) n_M_count 101 [some (.inr 31), o1, some (.inl (nI (dS (ahB g) p (pls g) + cnt (ahB g p) q 0))), some (.inl (nI p)), some (.inl (nI q))] [] M Q := by
        intro m
        induction m with
        | zero =>
          intro q hq
          refine b_M_count_101 _ _ _ _ ⟨fun _ => ?_, fun c1 => absurd (by rw [h4]; exact nI_le (by omega) (by omega)) c1⟩
          rw [nI_1, show q = pls g by omega]
          exact ih (p + 1) _ (by omega)
        | succ m ihm =>
          intro q hq
          have st : ∀ b : Bool, ahB g p q = b → JE E (d + 3) n_M_count 101 [some (.inr 31), o1, some (.inl (nI (dS (ahB g) p (pls g) + cnt (ahB g p) q 0) + (if b then 1 else 0))), some (.inl (nI p)), some (.inl (nI q + 1))] [] M Q := by
            intro b hb
            have := ihm (q + 1) (by omega)
            rw [cnt_last, Nat.zero_add, hb, ← Nat.add_assoc] at this
            rw [nI_1]
            cases b with
            | true =>
              rw [if_pos rfl] at this ⊢
              rw [nI_1]
              exact this
            | false =>
              rw [if_neg (by decide)] at this ⊢
              rw [Int32.add_zero]
              exact this
          refine b_M_count_101 _ _ _ _ ⟨fun c1 => absurd c1 (by rw [h4]; exact nI_ge (by omega) (by omega)), fun _ => ?_⟩
          rw [nI_eq (by omega) (by omega)]
          refine ⟨fun c2 => ?_, fun c2 => c_M_isAhead hR hW (by omega) (by omega) ⟨fun c3 => ?_, fun c3 => ?_⟩⟩
          · subst c2
            exact st false (ah_self hp.2.2 p)
          · exact st false (b2_z.mp c3)
          · exact st true (b2_nz.mp c3)
      refine b_M_count_90 _ _ _ _ ⟨fun c1 => absurd c1 (by rw [h4]; exact nI_ge (by omega) (by omega)), fun _ => ?_⟩
      exact inner (pls g) 0 (by omega)
  exact key (pls g) 0 _ (by omega)
theorem c_M_tours {Q : Int32 → Mem → Prop} (hR : RC g M) (hW : Wk g) (h : Q (nI (cnt (fun j => decide (16 ≤ g 42 j)) (pln g) 0)) M) (o1 o4 : Option V) : JE E d n_M_count 48 [some (.inr 31), o1, some (.inl 0), some (.inl 0), o4] [] M Q := by
  have hn := hW.2.1
  have h16 : M 31 16 = nI (pln g) := hR.2.2.2 16 (by omega) (by omega)
  have key : ∀ (n j : Nat), j + n = pln g → JE E d n_M_count 48 [some (.inr 31), o1, some (.inl (nI (cnt (fun j => decide (16 ≤ g 42 j)) j 0))), some (.inl (nI j)), o4] [] M Q := by
    intro n
    induction n with
    | zero =>
      intro j hj
      refine b_M_count_48 _ _ _ _ ⟨fun _ => ?_, fun c1 => absurd (by rw [h16]; exact nI_le (by omega) (by omega)) c1⟩
      rw [show j = pln g by omega]
      exact h
    | succ n ih =>
      intro j hj
      have hj2 := (hW.2.2.2.2.2.2.2.2 j (by omega)).1
      have := ih (j + 1) (by omega)
      rw [cnt_last, Nat.zero_add] at this
      refine b_M_count_48 _ _ _ _ ⟨fun c1 => absurd c1 (by rw [h16]; exact nI_ge (by omega) (by omega)), fun _ => ⟨vp_in_nI (by omega) (by omega), ?_⟩⟩
      rw [nI_clamp (by omega), hR.at 42 (by omega) (by omega) (by omega) j, show (16 : Int32) = nI 16 from rfl, nI_ltI (by omega) (by omega), nI_1]
      refine ⟨fun c2 => ?_, fun c2 => ?_⟩
      · rw [if_neg (by simp; omega)] at this
        rw [Int32.add_zero]
        exact this
      · rw [if_pos (by simp; omega)] at this
        rw [nI_1]
        exact this
  exact key (pln g) 0 (by omega)
theorem op_count {X : Int32} {Q : Int32 → Int32 → Mem → Prop} (h : RX M) (kk : ∀ r M', M' 1000 = M 1000 → RX M' → Q r r M') : CE E (d + 3) n_D_count [.inr 0, .inl X] M (fun r1 M1 => CE E (d + 3) n_M_count [.inr 31, .inl X] M1 (fun r2 M2 => Q r1 r2 M2)) := by
  obtain ⟨g, hr, ov, i, t, stp, rs, hI, hM, hD⟩ := id h
  obtain ⟨⟨hW, hp, hL, hRg⟩, -⟩ := id hI
  have hn := hW.2.1
  refine CE_of rfl (b_D_count_0 _ ⟨fun c0 => ?_, fun c0 => ⟨fun c1 => ?_, fun c1 => ⟨fun c2 => ?_, fun c2 => ⟨fun c3 => ?_, fun c3 => ⟨fun c4 => ?_, fun c4 => ?_⟩⟩⟩⟩⟩)
  · refine CE_of rfl (b_M_count_0 _ ⟨fun _ => ?_, fun z => absurd c0 z⟩)
    rw [show M 1 4 = nI (pls g) from hD.1.2.1.1, show M 31 4 = nI (pls g) from hM.1.2.2.1]
    exact kk _ M rfl h
  · refine CE_of rfl (b_M_count_0 _ ⟨fun z => absurd z c0, fun _ => ⟨fun _ => ?_, fun z => absurd c1 z⟩⟩)
    rw [show M 15 1 = nI (pln g) from hD.1.2.2.2.2.1, show M 31 16 = nI (pln g) from hM.1.2.2.2 16 (by omega) (by omega)]
    exact kk _ M rfl h
  · refine c_R_tours (f := g 42) hn hD.1.2.2.2.2.1 (fun j hj => ⟨by have := (hW.2.2.2.2.2.2.2.2 j hj).1; omega, hD.1.code hj⟩) ?_
    refine CE_of rfl (b_M_count_0 _ ⟨fun z => absurd z c0, fun _ => ⟨fun z => absurd z c1, fun _ => ⟨fun _ => ?_, fun z => absurd c2 z⟩⟩⟩)
    exact c_M_tours hM.1 hW (kk _ M rfl h) _ _
  · refine CE_of rfl (b_M_count_0 _ ⟨fun z => absurd z c0, fun _ => ⟨fun z => absurd z c1, fun _ => ⟨fun z => absurd z c2, fun _ => ⟨fun _ => ?_, fun z => absurd c3 z⟩⟩⟩⟩)
    rw [show M 14 0 = nI (g 31 11) from hD.1.2.2.2.1.1, show M 31 11 = nI (g 31 11) from hM.1.2.2.2 11 (by omega) (by omega)]
    exact kk _ M rfl h
  · refine c_B_pairs hD.1 hW ?_
    refine CE_of rfl (b_M_count_0 _ ⟨fun z => absurd z c0, fun _ => ⟨fun z => absurd z c1, fun _ => ⟨fun z => absurd z c2, fun _ => ⟨fun z => absurd z c3, fun _ => ⟨fun _ => ?_, fun z => absurd c4 z⟩⟩⟩⟩⟩)
    exact c_M_pairs hM.1 hW hp (kk _ M rfl h) _
  · exact CE_of rfl (b_M_count_0 _ ⟨fun z => absurd z c0, fun _ => ⟨fun z => absurd z c1, fun _ => ⟨fun z => absurd z c2, fun _ => ⟨fun z => absurd z c3, fun _ => ⟨fun z => absurd z c4, fun _ => kk _ M rfl h⟩⟩⟩⟩⟩)
end CN
