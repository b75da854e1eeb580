/-! The reference: takes. -/
section RT
variable {E : Env0} {d : Nat} {M : Mem} {Q : Int32 → Mem → Prop} {g : GS} {rs : RS}
theorem MR.take {st pa : Nat → Nat} {h : Hd} {tk ms : Nat} (hM : MR g (st, pa, h, tk, ms) M) (s v t p m : Nat) (x : Int32) : MR g (st, fs pa s v, hAdd h t, tk + 1, ms + m) (mset (mset (mset (mset (mset M 41 s (nI v)) 31 33 (M 31 33 + 1)) 31 24 (M 31 24 + nI t)) 50 p x) 31 34 (M 31 34 + nI m)) := by
  obtain ⟨⟨r1, r2, r3, r4⟩, h2, ⟨a1, a2, a3, a4⟩, h4, h5⟩ := hM
  have ne : ∀ k, k ≠ 31 → k ≠ 41 → k ≠ 50 → mset (mset (mset (mset (mset M 41 s (nI v)) 31 33 (M 31 33 + 1)) 31 24 (M 31 24 + nI t)) 50 p x) 31 34 (M 31 34 + nI m) k = M k := by
    intro k a b c
    rw [mset_ne _ _ _ a, mset_ne _ _ _ c, mset_ne _ _ _ a, mset_ne _ _ _ a, mset_ne _ _ _ b]
  have e41 : mset (mset (mset (mset (mset M 41 s (nI v)) 31 33 (M 31 33 + 1)) 31 24 (M 31 24 + nI t)) 50 p x) 31 34 (M 31 34 + nI m) 41 = upd (M 41) s (nI v) := by
    rw [mset_ne _ _ _ (by omega), mset_ne _ _ _ (by omega), mset_ne _ _ _ (by omega), mset_ne _ _ _ (by omega), mset_eq]
  have e31 : mset (mset (mset (mset (mset M 41 s (nI v)) 31 33 (M 31 33 + 1)) 31 24 (M 31 24 + nI t)) 50 p x) 31 34 (M 31 34 + nI m) 31 = upd (upd (upd (M 31) 33 (M 31 33 + 1)) 24 (M 31 24 + nI t)) 34 (M 31 34 + nI m) := by
    rw [mset_eq, mset_ne _ _ _ (by omega), mset_eq, mset_eq, mset_ne _ _ _ (by omega)]
  have o31 : ∀ j, j ≠ 33 → j ≠ 24 → j ≠ 34 → upd (upd (upd (M 31) 33 (M 31 33 + 1)) 24 (M 31 24 + nI t)) 34 (M 31 34 + nI m) j = M 31 j := by
    intro j a b c
    unfold upd
    rw [if_neg c, if_neg b, if_neg a]
  refine ⟨⟨fun k a b c j => ?_, fun j => ?_, ?_, fun j a b => ?_⟩, fun q => ?_, ⟨?_, ?_, ?_, ?_⟩, ?_, ?_⟩
  · by_cases hk : k = 41
    · subst hk
      rw [e41]
      show upd (M 41) s (nI v) j = nI (fs pa s v j)
      unfold upd fs
      split
      · rfl
      · exact r1 41 (by omega) (by omega) (by omega) j
    · rw [ne k (by omega) hk (by omega)]
      have : sG g 41 (fs pa s v) k = sG g 41 pa k := by unfold sG; rw [if_neg hk, if_neg hk]
      show M k j = nI (sG g 41 (fs pa s v) k j)
      rw [this]
      exact r1 k a b c j
  · rw [ne 40 (by omega) (by omega) (by omega)]; exact r2 j
  · rw [e31, o31 4 (by omega) (by omega) (by omega)]; exact r3
  · rw [e31, o31 j (by omega) (by omega) (by omega)]; exact r4 j a b
  · rw [ne 48 (by omega) (by omega) (by omega)]; exact h2 q
  · rw [e31, o31 21 (by omega) (by omega) (by omega)]; exact a1
  · rw [e31, o31 22 (by omega) (by omega) (by omega)]; exact a2
  · rw [e31, o31 23 (by omega) (by omega) (by omega)]; exact a3
  · rw [e31]
    show upd _ 34 _ 24 = nI (h.2.2.2 + t)
    unfold upd
    rw [if_neg (by omega), if_pos rfl, a4, nI_add]
  · rw [e31]
    show upd _ 34 _ 33 = nI (tk + 1)
    unfold upd
    rw [if_neg (by omega), if_neg (by omega), if_pos rfl, h4, nI_1]
  · rw [e31]
    show upd _ 34 _ 34 = nI (ms + m)
    unfold upd
    rw [if_pos rfl, h5, nI_add]
theorem c_M_takes {p s : Nat} (hM : MR g rs M) (hX : MX g M) (hb : rsB rs) (h19 : g 31 19 ≤ 3) (hmis : ∀ n, g 43 n ≤ 1) (hp : p < 10) (hs : s < 8) (hg : M 49 p = nI s) (h50 : M 50 p = 0) (k : ∀ M', sR M M' → MR g (tpS g s p rs) M' → (∀ q, M' 50 q = if q = p then b2 (tpF g s (g 31 19 + 1) rs.2).1 else M 50 q) → M' 49 = M 49 → Q 0 M') : CE E d n_M_takes [.inr 31, .inl (nI p)] M Q := by
  have v1 : vp_in (nI p) 10 := vp_in_nI hp (by omega)
  have v2 : vp_in (nI s) 8 := vp_in_nI hs (by omega)
  refine CE_of rfl (b_M_takes_0 _ ⟨v1, ?_⟩)
  rw [nI_clamp (by omega), hg]
  have fin : ∀ (c : Nat) (M1 : Mem), M1 50 p = 1 → Q 0 M1 → JE E d n_M_takes 9 [some (.inr 31), some (.inl (nI p)), some (.inl (nI s)), some (.inl (nI c))] [] M1 Q := by
    intro c M1 h1 hq
    refine b_M_takes_9 _ _ _ ?_
    rw [nI_clamp (by omega), h1]
    exact ⟨fun _ => ⟨v1, fun _ => hq, fun z => absurd z (by decide)⟩, fun _ => ⟨v1, fun _ => ⟨v1, fun _ => hq, fun z => absurd z (by decide)⟩, fun z => absurd z (by decide)⟩⟩
  have key : ∀ (n c : Nat) (r : TP) (M1 : Mem), c + n = g 31 19 + 1 → MR g (rs.1, r) M1 → sR M M1 → (∀ q, M1 50 q = if q = p then 0 else M 50 q) → M1 49 = M 49 → tpF g s n r = tpF g s (g 31 19 + 1) rs.2 → r.2.2.1 + n < 2 ^ 21 → (∀ t, t < 8 → r.1 t ≤ 100) → JE E d n_M_takes 9 [some (.inr 31), some (.inl (nI p)), some (.inl (nI s)), some (.inl (nI c))] [] M1 Q := by
    intro n
    induction n with
    | zero =>
      intro c r M1 hc hM1 s1 h1 e49 hfin htk hpa
      have hX1 := hX.sR s1
      rw [tpF] at hfin
      have hend : Q 0 (mset M1 48 p 2) := by
        refine k _ (s1.tr (sR.set 48 p 2 (by omega))) ?_ (fun q => ?_) ?_
        · unfold tpS
          rw [← hfin]
          exact hM1.st p 2
        · rw [← hfin, mset_ne _ _ _ (by omega)]
          exact h1 q
        · rw [mset_ne _ _ _ (by omega)]; exact e49
      have h1p : M1 50 p = 0 := by rw [h1 p, if_pos rfl]
      refine b_M_takes_9 _ _ _ ?_
      rw [nI_clamp (by omega), h1p, hX1.2, nI_ltI (by omega) (by omega)]
      exact ⟨fun _ => ⟨v1, fun z => absurd rfl z, fun _ => ⟨v1, hend⟩⟩, fun c1 => absurd (by omega) c1⟩
    | succ n ih =>
      intro c r M1 hc hM1 s1 h1 e49 hfin htk hpa
      have hX1 := hX.sR s1
      obtain ⟨pa, hd, tk, ms⟩ := r
      rw [tpF] at hfin
      have h1p : M1 50 p = 0 := by rw [h1 p, if_pos rfl]
      have m41 : M1 41 s = nI (pa s) := hM1.1.at 41 (by omega) (by omega) (by omega) s
      have hps := hpa s hs
      have h33 : M1 31 33 = nI tk := hM1.2.2.2.1
      have h12 : M1 31 12 = nI (g 31 12) := hM1.1.2.2.2 12 (by omega) (by omega)
      simp only at hfin hps htk
      refine b_M_takes_9 _ _ _ ?_
      rw [nI_clamp (by omega), nI_clamp (by omega), h1p, hX1.2, nI_ltI (by omega) (by omega), m41]
      refine ⟨fun c1 => absurd c1 (by omega), fun _ => ⟨v1, fun z => absurd rfl z, fun _ => ⟨v2, fun c2 => ?_, fun c2 => ⟨v2, v2, ?_⟩⟩⟩⟩
      · rw [zero_nI, nI_leI (by omega) (by omega)] at c2
        rw [if_pos (by omega)] at hfin
        refine ⟨v1, fun z => absurd rfl z, fun _ => ⟨v1, k _ (s1.tr (sR.set 48 p 2 (by omega))) ?_ (fun q => ?_) ?_⟩⟩
        · unfold tpS
          rw [← hfin]
          exact hM1.st p 2
        · rw [← hfin, mset_ne _ _ _ (by omega)]
          exact h1 q
        · rw [mset_ne _ _ _ (by omega)]; exact e49
      · rw [zero_nI, nI_leI (by omega) (by omega)] at c2
        rw [if_neg (by omega)] at hfin
        have e1 : nI (pa s) - 1 = nI (pa s - 1) := by rw [one_nI, pk_sub (by omega)]
        have sAll : ∀ (x : Int32) (m : Nat), sR M (mset (mset (mset (mset (mset M1 41 s (nI (pa s - 1))) 31 33 (M1 31 33 + 1)) 31 24 (M1 31 24 + nI (g 31 12))) 50 p x) 31 34 (M1 31 34 + nI m)) := by
          intro x m
          exact ((((s1.tr (sR.set 41 _ _ (by omega))).tr (sR.set31 33 _ (by omega))).tr (sR.set31 24 _ (by omega))).tr (sR.set 50 _ _ (by omega))).tr (sR.set31 34 _ (by omega))
        have e49' : ∀ (x : Int32) (m : Nat), mset (mset (mset (mset (mset M1 41 s (nI (pa s - 1))) 31 33 (M1 31 33 + 1)) 31 24 (M1 31 24 + nI (g 31 12))) 50 p x) 31 34 (M1 31 34 + nI m) 49 = M 49 := by
          intro x m
          rw [mset_ne _ _ _ (by omega), mset_ne _ _ _ (by omega), mset_ne _ _ _ (by omega), mset_ne _ _ _ (by omega), mset_ne _ _ _ (by omega)]
          exact e49
        have e50 : ∀ (x : Int32) (m q : Nat), mset (mset (mset (mset (mset M1 41 s (nI (pa s - 1))) 31 33 (M1 31 33 + 1)) 31 24 (M1 31 24 + nI (g 31 12))) 50 p x) 31 34 (M1 31 34 + nI m) 50 q = if q = p then x else M 50 q := by
          intro x m q
          rw [mset_ne _ _ _ (by omega), mset_eq, mset_ne _ _ _ (by omega), mset_ne _ _ _ (by omega), mset_ne _ _ _ (by omega)]
          unfold upd
          by_cases hq : q = p
          · rw [if_pos hq, if_pos hq]
          · rw [if_neg hq, if_neg hq, h1 q, if_neg hq]
        have i50 : ∀ (x : Int32), mset (mset (mset (mset M1 41 s (nI (pa s - 1))) 31 33 (M1 31 33 + 1)) 31 24 (M1 31 24 + nI (g 31 12))) 50 p x 50 p = x := by
          intro x
          rw [mset_eq]
          exact if_pos rfl
        -- held
        have held : (200 < tk + 1 ∨ g 43 (tk + 1) = 0) → JE E d n_M_takes 9 [some (.inr 31), some (.inl (nI p)), some (.inl (nI s)), some (.inl (nI c + 1))] [] (mset (mset (mset (mset (mset M1 41 s (nI (pa s - 1))) 31 33 (M1 31 33 + 1)) 31 24 (M1 31 24 + nI (g 31 12))) 50 p 1) 31 34 (M1 31 34 + 0)) Q := by
          intro hh
          rw [if_pos hh] at hfin
          rw [nI_1]
          refine fin (c + 1) _ (by rw [zero_nI, e50, if_pos rfl]) (k _ (sAll 1 0) ?_ (fun q => ?_) (e49' 1 0))
          · unfold tpS
            rw [← hfin]
            exact hM1.take s (pa s - 1) (g 31 12) p 0 1
          · rw [← hfin, zero_nI, e50]
            rfl
        rw [e1, h12]
        refine ⟨fun c3 => ?_, fun c3 => ?_⟩
        · rw [h33, nI_1, show (200 : Int32) = nI 200 from rfl, nI_ltI (by omega) (by omega)] at c3
          refine ⟨v1, z01_1, v1, fun z => ?_, fun _ => held (Or.inl c3)⟩
          rw [i50] at z
          exact absurd z (by decide)
        · rw [h33, nI_1, show (200 : Int32) = nI 200 from rfl, nI_ltI (by omega) (by omega)] at c3
          have hv : vp_in (M1 31 33 + 1) 201 := by rw [h33, nI_1]; exact vp_in_nI (by omega) (by omega)
          have e43 : M1 43 (Int32.toNatClampNeg (M1 31 33 + 1)) = nI (g 43 (tk + 1)) := by
            rw [h33, nI_1, nI_clamp (by omega)]
            exact hX1.1 _
          have hm1 := hmis (tk + 1)
          refine ⟨hv, fun c4 => ⟨v1, z01_0, v1, fun _ => ?_, fun z => ?_⟩, fun c4 => ⟨v1, z01_1, v1, fun z => ?_, fun _ => held (Or.inr ?_)⟩⟩
          · rw [e43, zero_nI, nI_eq (by omega) (by omega)] at c4
            rw [if_neg (by omega)] at hfin
            rw [nI_1]
            exact ih (c + 1) (fs pa s (pa s - 1), hAdd hd (g 31 12), tk + 1, ms + 1) _ (by omega) (hM1.take s (pa s - 1) (g 31 12) p 1 0) (sAll 0 1) (e50 0 1) (e49' 0 1) hfin (by show tk + 1 + n < _; omega) (fun t ht => by
              show fs pa s (pa s - 1) t ≤ 100
              unfold fs
              split
              · omega
              · exact hpa t ht)
          · rw [i50] at z
            exact absurd rfl z
          · rw [i50] at z
            exact absurd z (by decide)
          · rw [e43, zero_nI, nI_eq (by omega) (by omega)] at c4
            exact c4
  refine key (g 31 19 + 1) 0 rs.2 M (by omega) hM sR.rf (fun q => ?_) rfl rfl (by have := hb.2.2.2; omega) hb.2.1
  by_cases hq : q = p
  · rw [if_pos hq, hq, h50]
  · rw [if_neg hq]
end RT
