/-! The desk: a new place. -/
theorem mv_lt {a b c d s : Nat} : mv a b c d < s ↔ dst a c < s ∧ dst b d < s := by
  unfold mv
  split <;> omega
theorem dst_comm (a b : Nat) : dst a b = dst b a := by
  unfold dst
  split <;> split <;> omega
theorem bitsOf_all {f h : Nat → Bool} {n : Nat} (e : ∀ i, i < n → f i = h i) : bitsOf f n = bitsOf h n := by
  apply bitsOf_cong
  intro i
  by_cases hi : i < n
  · rw [e i hi]
  · simp [hi]
theorem bitsOf_none {f : Nat → Bool} {n : Nat} (e : ∀ i, i < n → f i = false) : bitsOf f n = 0 := by
  apply bits_ext
  intro i
  rw [bitsOf_bit, Nat.zero_testBit]
  by_cases hi : i < n
  · rw [e i hi, Bool.and_false]
  · simp [hi]
section PD
variable {E : Env0} {d : Nat} {M : Mem} {Q : Int32 → Mem → Prop} {g : GS}
theorem c_B_putPlace {n lo : Nat} {x y k : Nat} {H : Nat → Bool} (hn : n < 10) (h4 : M 1 4 = nI n) (h : ∀ M', (∀ k', k' ≠ 1 → k' ≠ 6 → k' ≠ 7 → k' ≠ 8 → k' ≠ 9 → M' k' = M k') → (∀ j, j ≠ 4 → M' 1 j = M 1 j) → M' 1 4 = nI (n + 1) → M' 6 = upd (M 6) n (nI x) → M' 7 = upd (M 7) n (nI y) → M' 8 = upd (M 8) n (nI k) → M' 9 n = nI lo → (∀ q, q < n → M' 9 q = if H q then M 9 q ||| (1 <<< (nI n &&& 31)) else M 9 q) → Q (nI n) M') : CE E (d + 1) n_B_putPlace [.inr 1, .inl (nI x), .inl (nI y), .inl (nI k), .inl (nI lo), .inl (nI (bitsOf H n))] M Q := by
  have hl := bitsOf_lt H n
  have hl2 : 2 ^ n ≤ 2 ^ 10 := Nat.pow_le_pow_right (by omega) (by omega)
  have v : vp_in (nI n) 10 := vp_in_nI hn (by omega)
  refine CE_of rfl (b_B_putPlace_0 _ _ _ _ _ ?_)
  rw [h4, nI_clamp (by omega), nI_1]
  refine ⟨v, v, v, v, ?_⟩
  have key : ∀ (m q : Nat) (M1 : Mem) (o1 o2 o3 o4 : Option V), q + m = n → (∀ k', k' ≠ 1 → k' ≠ 6 → k' ≠ 7 → k' ≠ 8 → k' ≠ 9 → M1 k' = M k') → (∀ j, j ≠ 4 → M1 1 j = M 1 j) → M1 1 4 = nI (n + 1) → M1 6 = upd (M 6) n (nI x) → M1 7 = upd (M 7) n (nI y) → M1 8 = upd (M 8) n (nI k) → M1 9 n = nI lo → (∀ q', q' < n → M1 9 q' = if (decide (q' < q) && H q') then M 9 q' ||| (1 <<< (nI n &&& 31)) else M 9 q') → JE E (d + 1) n_B_putPlace 52 [some (.inr 1), o1, o2, o3, o4, some (.inl (nI (bitsOf H n))), some (.inl (nI n)), some (.inl (nI q))] [] M1 Q := by
    intro m
    induction m with
    | zero =>
      intro q M1 o1 o2 o3 o4 hq e0 e1 e2 e3 e4 e5 e6 e7
      refine b_B_putPlace_52 _ _ _ _ _ _ _ ⟨fun _ => h M1 e0 e1 e2 e3 e4 e5 e6 (fun q' hq' => ?_), fun c1 => absurd (nI_le (by omega) (by omega)) c1⟩
      rw [e7 q' hq']
      have : decide (q' < q) = true := by simp; omega
      rw [this, Bool.true_and]
    | succ m ih =>
      intro q M1 o1 o2 o3 o4 hq e0 e1 e2 e3 e4 e5 e6 e7
      have vq : vp_in (nI q) 10 := vp_in_nI (by omega) (by omega)
      have hb : (bitsOf H n).testBit q = H q := by
        rw [bitsOf_bit]
        have : decide (q < n) = true := by simp; omega
        rw [this, Bool.true_and]
      have hq9 : M1 9 q = M 9 q := by
        rw [e7 q (by omega)]
        have : decide (q < q) = false := by simp
        rw [this, Bool.false_and]
        rfl
      refine b_B_putPlace_52 _ _ _ _ _ _ _ ⟨fun c1 => absurd c1 (nI_ge (by omega) (by omega)), fun _ => ?_⟩
      refine c_D_hasBit (by omega) (by omega) ?_
      rw [hb, nI_1]
      refine ⟨fun c2 => ?_, fun c2 => ⟨vq, vq, ?_⟩⟩
      · rw [b2_z] at c2
        refine ih (q + 1) M1 _ _ _ _ (by omega) e0 e1 e2 e3 e4 e5 e6 (fun q' hq' => ?_)
        rw [e7 q' hq']
        by_cases hqq : q' = q
        · rw [hqq, c2, Bool.and_false, Bool.and_false]
        · have : decide (q' < q + 1) = decide (q' < q) := by
            congr 1
            apply propext
            omega
          rw [this]
      · rw [b2_nz] at c2
        rw [nI_clamp (by omega)]
        refine ih (q + 1) _ _ _ _ _ (by omega) (fun k' a b c d e => by rw [mset_ne _ _ _ e]; exact e0 k' a b c d e) (fun j hj => by rw [mset_ne _ _ _ (by omega)]; exact e1 j hj) (by rw [mset_ne _ _ _ (by omega)]; exact e2) (by rw [mset_ne _ _ _ (by omega)]; exact e3) (by rw [mset_ne _ _ _ (by omega)]; exact e4) (by rw [mset_ne _ _ _ (by omega)]; exact e5) ?_ (fun q' hq' => ?_)
        · rw [mset_eq]
          unfold upd
          rw [if_neg (by omega)]
          exact e6
        · rw [mset_eq]
          unfold upd
          by_cases hqq : q' = q
          · have : (decide (q' < q + 1) && H q') = true := by rw [hqq, c2]; simp
            rw [if_pos hqq, this, if_pos rfl, hq9, hqq]
          · rw [if_neg hqq, e7 q' hq']
            have : decide (q' < q + 1) = decide (q' < q) := by
              congr 1
              apply propext
              omega
            rw [this]
  refine key n 0 _ _ _ _ _ (by omega) (fun k' a b c d e => ?_) (fun j hj => ?_) ?_ ?_ ?_ ?_ ?_ (fun q' hq' => ?_)
  · rw [mset_ne _ _ _ e, mset_ne _ _ _ d, mset_ne _ _ _ c, mset_ne _ _ _ b, mset_ne _ _ _ a]
  · rw [mset_ne _ _ _ (by omega), mset_ne _ _ _ (by omega), mset_ne _ _ _ (by omega), mset_ne _ _ _ (by omega), mset_eq]
    exact if_neg hj
  · rw [mset_ne _ _ _ (by omega), mset_ne _ _ _ (by omega), mset_ne _ _ _ (by omega), mset_ne _ _ _ (by omega), mset_eq]
    exact if_pos rfl
  · rw [mset_ne _ _ _ (by omega), mset_ne _ _ _ (by omega), mset_ne _ _ _ (by omega), mset_eq, mset_ne _ _ _ (by omega)]
  · rw [mset_ne _ _ _ (by omega), mset_ne _ _ _ (by omega), mset_eq, mset_ne _ _ _ (by omega), mset_ne _ _ _ (by omega)]
  · rw [mset_ne _ _ _ (by omega), mset_eq, mset_ne _ _ _ (by omega), mset_ne _ _ _ (by omega), mset_ne _ _ _ (by omega)]
  · rw [mset_eq]
    exact if_pos rfl
  · rw [mset_eq, mset_ne _ _ _ (by omega), mset_ne _ _ _ (by omega), mset_ne _ _ _ (by omega), mset_ne _ _ _ (by omega)]
    unfold upd
    rw [if_neg (by omega)]
    have : decide (q' < 0) = false := by simp
    rw [this, Bool.false_and]
    rfl
/-- what the desk's place may change -/
def sA (M M' : Mem) : Prop := (∀ k, k ≠ 1 → k ≠ 6 → k ≠ 7 → k ≠ 8 → k ≠ 9 → k ≠ 10 → k ≠ 15 → k ≠ 26 → M' k = M k) ∧ ∀ j, j ≠ 7 → M' 26 j = M 26 j
theorem c_D_dropPlan (k : ∀ M', (∀ k', k' ≠ 15 → k' ≠ 26 → M' k' = M k') → (∀ j, j ≠ 7 → M' 26 j = M 26 j) → M' 26 7 = 0 → M' 15 1 = 0 → M' 15 2 = 0 → Q 0 M') : CE E (d + 1) n_D_dropPlan [.inr 0] M Q := by
  refine CE_of rfl (b_D_dropPlan_0 (c_R_empty ⟨z01_0, k _ (fun k' a b => ?_) (fun j hj => ?_) ?_ ?_ ?_⟩))
  · rw [mset_ne _ _ _ b, mset_ne _ _ _ a, mset_ne _ _ _ a]
  · rw [mset_eq, mset_ne _ _ _ (by omega), mset_ne _ _ _ (by omega)]
    exact if_neg hj
  · rw [mset_eq]
    exact if_pos rfl
  · rw [mset_ne _ _ _ (by omega), mset_eq, mset_eq]
    rfl
  · rw [mset_ne _ _ _ (by omega), mset_eq]
    rfl
theorem DC.pl (hD : DC g M) (x y k : Nat) : DC (gP g x y k) M := by
  obtain ⟨hK, ⟨hP1, hP2, hP3⟩, hS, hG, hR⟩ := hD
  refine ⟨hK, ⟨hP1, fun p hp => ?_, hP3⟩, hS, hG, hR⟩
  have hp : p < pls g := hp
  obtain ⟨a, b, c, e, f⟩ := hP2 p hp
  refine ⟨?_, ?_, ?_, ?_, f⟩
  · show M 6 p = nI (fs (g 36) (pls g) x p)
    rw [fs_ne _ _ (by omega)]; exact a
  · show M 7 p = nI (fs (g 37) (pls g) y p)
    rw [fs_ne _ _ (by omega)]; exact b
  · show M 8 p = nI (fs (g 38) (pls g) k p)
    rw [fs_ne _ _ (by omega)]; exact c
  · rw [e]
    congr 1
    exact bitsOf_all (fun i hi => (gP_ah hi hp).symm)
theorem c_B_addPlace {x y k : Nat} (hD : DC g M) (hW : Wk g) (hp : Wp g) (hL : WL g) (h0 : ¬ Rg (pls g) (ahB g)) (hx : x ≤ 199) (hy : y ≤ 199) (hk : k ≤ 7)
    (k0 : pls g = 10 → Q (-1) M)
    (k1 : pls g < 10 → (ovB (gP g x y k) (pls g) = true ∨ Rg (pls g + 1) (ahB (gP g x y k))) → Q (-1) M)
    (k2 : pls g < 10 → ovB (gP g x y k) (pls g) = false → ¬ Rg (pls g + 1) (ahB (gP g x y k)) → ∀ M', (∀ k', k' ≠ 1 → k' ≠ 6 → k' ≠ 7 → k' ≠ 8 → k' ≠ 9 → M' k' = M k') → (∀ j, j ≠ 4 → M' 1 j = M 1 j) → M' 1 4 = nI (pls g + 1) → M' 6 = upd (M 6) (pls g) (nI x) → M' 7 = upd (M 7) (pls g) (nI y) → M' 8 = upd (M 8) (pls g) (nI k) → M' 9 (pls g) = nI (bitsOf (fun q => ahB (gP g x y k) q (pls g)) (pls g)) → (∀ q, q < pls g → M' 9 q = if ahB (gP g x y k) (pls g) q then M 9 q ||| (1 <<< (nI (pls g) &&& 31)) else M 9 q) → Q (nI (pls g)) M') : CE E (d + 2) n_B_addPlace [.inr 1, .inl (nI x), .inl (nI y), .inl (nI k)] M Q := by
  have hp10 := hW.1
  have h4 : M 1 4 = nI (pls g) := hD.2.1.1
  have hl : ∀ f : Nat → Bool, bitsOf f (pls g) < 2 ^ 31 := fun f => by
    have := bitsOf_lt f (pls g)
    have : 2 ^ pls g ≤ 2 ^ 10 := Nat.pow_le_pow_right (by omega) hp10
    omega
  refine CE_of rfl (b_B_addPlace_0 _ _ _ ?_)
  rw [h4, show (10 : Int32) = nI 10 from rfl, nI_ltI (by omega) (by omega)]
  refine ⟨fun c1 => ?_, fun c1 => k0 (by omega)⟩
  have k1 := k1 c1
  have k2 := k2 c1
  have hG : ∀ q, q < pls g → wiB (gP g x y k) q (pls g) 0 = decide (mv (g 36 q) (g 37 q) x y < g 32 (g 38 q) + g 32 k) ∧ ahB (gP g x y k) q (pls g) = (decide (mv (g 36 q) (g 37 q) x y < g 32 (g 38 q) + g 32 k + 3) && decide (g 33 (g 38 q) < g 33 k)) ∧ ahB (gP g x y k) (pls g) q = (decide (mv (g 36 q) (g 37 q) x y < g 32 (g 38 q) + g 32 k + 3) && decide (g 33 k < g 33 (g 38 q))) := by
    intro q hq
    have e1 : ∀ j, (gP g x y k) 36 j = fs (g 36) (pls g) x j := fun _ => rfl
    have e2 : ∀ j, (gP g x y k) 37 j = fs (g 37) (pls g) y j := fun _ => rfl
    have e3 : ∀ j, (gP g x y k) 38 j = fs (g 38) (pls g) k j := fun _ => rfl
    have e4 : (gP g x y k) 39 = g 39 := rfl
    have e5 : (gP g x y k) 32 = g 32 := rfl
    have e6 : (gP g x y k) 33 = g 33 := rfl
    have n1 : (g 39 (10 * pls g + q) == 1) = false := by
      have := hW.2.2.2.2.1 (10 * pls g + q)
      cases hb : g 39 (10 * pls g + q) == 1
      · rfl
      · have := hL (pls g) q c1 (by omega) (by simpa using hb)
        omega
    have n2 : (g 39 (10 * q + pls g) == 1) = false := by
      cases hb : g 39 (10 * q + pls g) == 1
      · rfl
      · have := hL q (pls g) (by omega) c1 (by simpa using hb)
        omega
    have hqn : q ≠ pls g := by omega
    unfold wiB ahB
    simp only [e1, e2, e3, e4, e5, e6, fs_eq, fs_ne _ _ hqn, n1, n2, Bool.false_or]
    have em : ∀ s, decide (mv (g 36 q) (g 37 q) x y < s) = (decide (dst (g 36 q) x < s) && decide (dst (g 37 q) y < s)) := by
      intro s
      rw [← Bool.decide_and]
      congr 1
      exact propext mv_lt
    rw [em, em, dst_comm x, dst_comm y, Nat.add_comm (g 32 k)]
    refine ⟨rfl, ?_, ?_⟩ <;> rw [Bool.and_assoc]
  have L20 : ∀ (m q : Nat) (o7 o8 : Option V), q + m = pls g → ovB (gP g x y k) (pls g) = decide (0 < cnt (fun q => wiB (gP g x y k) q (pls g) 0) m q) → JE E (d + 2) n_B_addPlace 20 [some (.inr 1), some (.inl (nI x)), some (.inl (nI y)), some (.inl (nI k)), some (.inl (nI (bitsOf (fun z => decide (z < q) && ahB (gP g x y k) z (pls g)) (pls g)))), some (.inl (nI (bitsOf (fun z => decide (z < q) && ahB (gP g x y k) (pls g) z) (pls g)))), some (.inl (nI q)), o7, o8] [] M Q := by
    intro m
    induction m with
    | zero =>
      intro q o7 o8 hq hov
      have hov : ovB (gP g x y k) (pls g) = false := by rw [hov, cnt]; rfl
      have eL : bitsOf (fun z => decide (z < q) && ahB (gP g x y k) z (pls g)) (pls g) = bitsOf (fun z => ahB (gP g x y k) z (pls g)) (pls g) := bitsOf_all (fun i hi => by
        have : decide (i < q) = true := by simp; omega
        rw [this, Bool.true_and])
      have eH : bitsOf (fun z => decide (z < q) && ahB (gP g x y k) (pls g) z) (pls g) = bitsOf (fun z => ahB (gP g x y k) (pls g) z) (pls g) := bitsOf_all (fun i hi => by
        have : decide (i < q) = true := by simp; omega
        rw [this, Bool.true_and])
      rw [eL, eH]
      refine b_B_addPlace_20 _ _ _ _ _ _ _ _ ⟨fun _ => ?_, fun c2 => absurd (by rw [h4]; exact nI_le (by omega) (by omega)) c2⟩
      refine c_B_withAllBefore (A := ahB (gP g x y k)) hp10 h4 (fun p hp => ?_) ?_
      · rw [(hD.2.1.2.1 p hp).2.2.2.1]
        congr 1
        exact bitsOf_all (fun i hi => (gP_ah hi hp).symm)
      have hr := ring_place (n := pls g) (A := ahB (gP g x y k)) (by omega) (fun z => h0 ((Rg_cong (fun a b ha hb => gP_ah ha hb)).mp z)) (ah_self (g := gP g x y k) hp.2.2 (pls g))
      have hz : nI (bitsOf (an (pls g) (ahB (gP g x y k)) (fun q => ahB (gP g x y k) q (pls g)) 10) (pls g)) &&& nI (bitsOf (fun z => ahB (gP g x y k) (pls g) z) (pls g)) = 0 ↔ ¬ Rg (pls g + 1) (ahB (gP g x y k)) := by
        rw [and_z (hl _), hr]
        constructor
        · rintro h ⟨z, z1, z2, z3⟩
          have := h z (by rw [bitsOf_bit]; simp [z1, z2])
          rw [bitsOf_bit] at this
          simp [z1, z3] at this
        · intro h i hi
          rw [bitsOf_bit] at hi ⊢
          simp at hi
          cases hA : ahB (gP g x y k) (pls g) i
          · simp
          · exact absurd ⟨i, hi.1, hi.2, hA⟩ h
      rw [hz]
      refine ⟨fun c3 => ?_, fun c3 => k1 (Or.inr (Classical.byContradiction c3))⟩
      exact c_B_putPlace (H := fun z => ahB (gP g x y k) (pls g) z) c1 h4 (fun M' e0 e1 e2 e3 e4 e5 e6 e7 => k2 hov c3 M' e0 e1 e2 e3 e4 e5 e6 e7)
    | succ m ih =>
      intro q o7 o8 hq hov
      have hqn : q < pls g := by omega
      obtain ⟨g1, g2, g3⟩ := hG q hqn
      obtain ⟨m6, m7, m8, -, -⟩ := hD.2.1.2.1 q hqn
      obtain ⟨w1, w2, w3⟩ := hW.2.2.1 q (by omega)
      have kq := hW.2.2.2.1 _ w3
      have kk := hW.2.2.2.1 k (by omega)
      have dq := hD.1 _ w3
      have dk := hD.1 k (by omega)
      have vq : vp_in (nI q) 10 := vp_in_nI (by omega) (by omega)
      have v8 : vp_in (nI (g 38 q)) 8 := vp_in_nI (by omega) (by omega)
      have vk : vp_in (nI k) 8 := vp_in_nI (by omega) (by omega)
      have hmv : mv (g 36 q) (g 37 q) x y ≤ 199 := mv_le w1 w2 hx hy
      rw [cnt, g1] at hov
      -- the next one
      have nxt : ∀ (lo hi : Bool) (o7 o8 : Option V), lo = ahB (gP g x y k) q (pls g) → hi = ahB (gP g x y k) (pls g) q → ¬ mv (g 36 q) (g 37 q) x y < g 32 (g 38 q) + g 32 k → JE E (d + 2) n_B_addPlace 158 [some (.inr 1), some (.inl (nI x)), some (.inl (nI y)), some (.inl (nI k)), some (.inl (nI (if lo then bitsOf (fun z => decide (z < q) && ahB (gP g x y k) z (pls g)) (pls g) ||| 2 ^ q else bitsOf (fun z => decide (z < q) && ahB (gP g x y k) z (pls g)) (pls g)))), some (.inl (nI (if hi then bitsOf (fun z => decide (z < q) && ahB (gP g x y k) (pls g) z) (pls g) ||| 2 ^ q else bitsOf (fun z => decide (z < q) && ahB (gP g x y k) (pls g) z) (pls g)))), some (.inl (nI q)), o7, o8] [] M Q := by
        intro lo hi o7 o8 elo ehi hno
        have st : ∀ (f : Nat → Bool) (b : Bool), b = f q → (if b then bitsOf (fun z => decide (z < q) && f z) (pls g) ||| 2 ^ q else bitsOf (fun z => decide (z < q) && f z) (pls g)) = bitsOf (fun z => decide (z < q + 1) && f z) (pls g) := by
          intro f b hb
          cases b with
          | true =>
            rw [if_pos rfl]
            refine (bits_set hqn (fun p => ?_)).symm
            by_cases hpq : p = q
            · rw [hpq, ← hb]; simp
            · have : decide (p < q + 1) = decide (p < q) := by
                congr 1
                apply propext
                omega
              rw [this]; simp [hpq]
          | false =>
            rw [if_neg (by decide)]
            refine bitsOf_all (fun p _ => ?_)
            by_cases hpq : p = q
            · rw [hpq, ← hb]; simp
            · have : decide (p < q + 1) = decide (p < q) := by
                congr 1
                apply propext
                omega
              rw [this]
        rw [st (fun z => ahB (gP g x y k) z (pls g)) lo elo, st (fun z => ahB (gP g x y k) (pls g) z) hi ehi]
        refine b_B_addPlace_158 _ _ _ _ _ _ _ _ ?_
        rw [nI_1]
        refine ih (q + 1) _ _ (by omega) ?_
        have : decide (mv (g 36 q) (g 37 q) x y < g 32 (g 38 q) + g 32 k) = false := by simp; omega
        rw [this] at hov
        simp only [Bool.false_eq_true, if_false, Nat.zero_add] at hov
        exact hov
      refine b_B_addPlace_20 _ _ _ _ _ _ _ _ ⟨fun c2 => absurd c2 (by rw [h4]; exact nI_ge (by omega) (by omega)), fun _ => ?_⟩
      simp (disch := omega) only [nI_clamp, m6, m7, m8, dq.1, dk.1]
      refine ⟨vq, v8, vk, vq, vq, c_D_way (by omega) (by omega) (by omega) (by omega) ?_⟩
      rw [nI_add, nI_leI (by omega) (by omega)]
      refine ⟨fun c3 => ?_, fun c3 => ?_⟩
      · -- lower, then higher
        have L119 : ∀ (lo : Bool), lo = ahB (gP g x y k) q (pls g) → JE E (d + 2) n_B_addPlace 119 [some (.inr 1), some (.inl (nI x)), some (.inl (nI y)), some (.inl (nI k)), some (.inl (nI (if lo then bitsOf (fun z => decide (z < q) && ahB (gP g x y k) z (pls g)) (pls g) ||| 2 ^ q else bitsOf (fun z => decide (z < q) && ahB (gP g x y k) z (pls g)) (pls g)))), some (.inl (nI (bitsOf (fun z => decide (z < q) && ahB (gP g x y k) (pls g) z) (pls g)))), some (.inl (nI q)), some (.inl (nI (g 32 (g 38 q) + g 32 k))), some (.inl (nI (mv (g 36 q) (g 37 q) x y)))] [] M Q := by
          intro lo elo
          refine b_B_addPlace_119 _ _ _ _ _ _ _ _ ?_
          simp (disch := omega) only [nI_clamp, m8, dq.2.1, dk.2.1]
          rw [show (2 : Int32) = nI 2 from rfl, nI_add, nI_ltI (by omega) (by omega), nI_leI (by omega) (by omega), or_bit _ _ (by omega)]
          refine ⟨fun c4 => ?_, fun c4 => ⟨vq, v8, vk, fun c5 => ?_, fun c5 => ?_⟩⟩
          · refine nxt lo false _ _ elo ?_ (by omega)
            rw [g3]
            have : decide (mv (g 36 q) (g 37 q) x y < g 32 (g 38 q) + g 32 k + 3) = false := by simp; omega
            rw [this, Bool.false_and]
          · refine nxt lo false _ _ elo ?_ (by omega)
            rw [g3]
            have : decide (g 33 k < g 33 (g 38 q)) = false := by simp; omega
            rw [this, Bool.and_false]
          · refine nxt lo true _ _ elo ?_ (by omega)
            rw [g3]
            have t1 : decide (mv (g 36 q) (g 37 q) x y < g 32 (g 38 q) + g 32 k + 3) = true := by simp; omega
            have t2 : decide (g 33 k < g 33 (g 38 q)) = true := by simp; omega
            rw [t1, t2]
            rfl
        refine b_B_addPlace_80 _ _ _ _ _ _ _ _ ?_
        simp (disch := omega) only [nI_clamp, m8, dq.2.1, dk.2.1]
        rw [show (2 : Int32) = nI 2 from rfl, nI_add, nI_ltI (by omega) (by omega), nI_leI (by omega) (by omega), or_bit _ _ (by omega)]
        refine ⟨fun c4 => ?_, fun c4 => ⟨vq, v8, vk, fun c5 => ?_, fun c5 => ?_⟩⟩
        · refine L119 false ?_
          rw [g2]
          have : decide (mv (g 36 q) (g 37 q) x y < g 32 (g 38 q) + g 32 k + 3) = false := by simp; omega
          rw [this, Bool.false_and]
        · refine L119 false ?_
          rw [g2]
          have : decide (g 33 (g 38 q) < g 33 k) = false := by simp; omega
          rw [this, Bool.and_false]
        · refine L119 true ?_
          rw [g2]
          have t1 : decide (mv (g 36 q) (g 37 q) x y < g 32 (g 38 q) + g 32 k + 3) = true := by simp; omega
          have t2 : decide (g 33 (g 38 q) < g 33 k) = true := by simp; omega
          rw [t1, t2]
          rfl
      · have t : decide (mv (g 36 q) (g 37 q) x y < g 32 (g 38 q) + g 32 k) = true := by simp; omega
        rw [t] at hov
        exact k1 (Or.inl (by rw [hov]; simp; omega))
  have := L20 (pls g) 0 none none (by omega) rfl
  have eL : ∀ f : Nat → Bool, bitsOf (fun z => decide (z < 0) && f z) (pls g) = 0 := fun f => bitsOf_none (fun i _ => by simp)
  rw [eL (fun z => ahB (gP g x y k) z (pls g)), eL (fun z => ahB (gP g x y k) (pls g) z)] at this
  exact this
end PD
