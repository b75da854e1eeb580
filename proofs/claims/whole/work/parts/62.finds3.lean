/-! The reference's search: all rows and masks. -/
theorem ltR_tot (n : Nat) (r s : Nat → Nat) : ltR n r s ∨ eqN n r s ∨ ltR n s r := by
  have key : ∀ m, m ≤ n → ltR n r s ∨ eqN m r s ∨ ltR n s r := by
    intro m
    induction m with
    | zero => exact fun _ => Or.inr (Or.inl (fun j hj => absurd hj (by omega)))
    | succ m ih =>
      intro hm
      rcases ih (by omega) with h | h | h
      · exact Or.inl h
      · rcases Nat.lt_trichotomy (r m) (s m) with q | q | q
        · exact Or.inl ⟨m, by omega, h, q⟩
        · refine Or.inr (Or.inl (fun j hj => ?_))
          by_cases e : j = m
          · rw [e]; exact q
          · exact h j (by omega)
        · exact Or.inr (Or.inr ⟨m, by omega, fun j hj => (h j hj).symm, q⟩)
      · exact Or.inr (Or.inr h)
  exact key n (Nat.le_refl n)
theorem ltR_asy {n : Nat} {r s : Nat → Nat} (h1 : ltR n r s) (h2 : ltR n s r) : False := by
  obtain ⟨a, a1, a2, a3⟩ := h1
  obtain ⟨b, b1, b2', b3⟩ := h2
  rcases Nat.lt_trichotomy a b with q | q | q
  · have := b2' a q; omega
  · subst q; omega
  · have := a2 b q; omega
theorem ltR_ne {n : Nat} {r s : Nat → Nat} (h1 : ltR n r s) (h2 : eqN n r s) : False := by
  obtain ⟨a, a1, a2, a3⟩ := h1
  have := h2 a a1
  omega
theorem ltR_tr {n : Nat} {r s t : Nat → Nat} (h1 : ltR n r s) (h2 : ltR n s t) : ltR n r t := by
  obtain ⟨a, a1, a2, a3⟩ := h1
  obtain ⟨b, b1, b2', b3⟩ := h2
  rcases Nat.lt_trichotomy a b with q | q | q
  · exact ⟨a, a1, fun j hj => (a2 j hj).trans (b2' j (by omega)), by rw [← b2' a q]; exact a3⟩
  · subst q; exact ⟨a, a1, fun j hj => (a2 j hj).trans (b2' j hj), by omega⟩
  · exact ⟨b, b1, fun j hj => (a2 j (by omega)).trans (b2' j hj), by rw [a2 b q]; exact b3⟩
theorem ltR_cl {n : Nat} {r s t : Nat → Nat} (h1 : eqN n r s) (h2 : ltR n s t) : ltR n r t := by
  obtain ⟨b, b1, b2', b3⟩ := h2
  exact ⟨b, b1, fun j hj => (h1 j (by omega)).trans (b2' j hj), by rw [h1 b b1]; exact b3⟩
def vaN (r : Nat → Nat) : Nat → Nat
  | 0 => 0
  | n + 1 => vaN r n * 10 + r n
theorem vaN_eq {r s : Nat → Nat} : ∀ {n : Nat}, eqN n r s → vaN r n = vaN s n
  | 0, _ => rfl
  | n + 1, h => by rw [vaN, vaN, vaN_eq (fun j hj => h j (by omega)), h n (by omega)]
theorem vaN_lt {r s : Nat → Nat} : ∀ {n : Nat}, (∀ j, j < n → r j < 10) → ltR n r s → vaN r n < vaN s n
  | 0, _, h => by obtain ⟨k, k1, -⟩ := h; omega
  | n + 1, hr, h => by
    obtain ⟨k, k1, k2, k3⟩ := h
    rw [vaN, vaN]
    have := hr n (by omega)
    by_cases q : k = n
    · subst q
      rw [vaN_eq (r := r) (s := s) (n := k) (fun j hj => k2 j hj)]
      omega
    · have := vaN_lt (r := r) (s := s) (n := n) (fun j hj => hr j (by omega)) ⟨k, by omega, k2, k3⟩
      omega
theorem vaN_b {r : Nat → Nat} : ∀ {n : Nat}, (∀ j, j < n → r j < 10) → vaN r n < 10 ^ n
  | 0, _ => by show 0 < 1; omega
  | n + 1, hr => by
    have h1 := vaN_b (r := r) (n := n) (fun j hj => hr j (by omega))
    have h2 := hr n (by omega)
    rw [vaN, Nat.pow_succ]
    omega
/-- the plans that are done: rows below r, and of r the masks below w -/
def PD (n : Nat) (r : Nat → Nat) (w : Nat) (c : Nat → Nat) : Prop := ltR n (roN c) r ∨ (eqN n (roN c) r ∧ mkN n c < w)
/-- what the search has changed -/
def FI (g : GS) (M0 M : Mem) : Prop := (∃ cc, RC (gC g cc) M ∧ ∀ j, pls g ≤ j → cc j = g 42 j) ∧ (∀ k', k' ≠ 31 → k' ≠ 42 → k' ≠ 45 → k' ≠ 46 → k' ≠ 47 → M k' = M0 k') ∧ (∀ j, j < 10 → M 45 j = nI (g 42 j)) ∧ ∀ j, j ≠ 16 → (j < 21 ∨ 24 < j) → j ≠ 29 → M 31 j = M0 31 j
theorem FI.s46 {g : GS} {M0 M M' : Mem} (h : FI g M0 M) (s : sO 46 M M') : FI g M0 M' := by
  obtain ⟨⟨cc, h1, h2⟩, h3, h4, h5⟩ := h
  refine ⟨⟨cc, h1.frM (fun k' a b => s k' (by omega)) (fun j _ => by rw [s 31 (by omega)]), h2⟩, fun k' a b c d' e => by rw [s k' d']; exact h3 k' a b c d' e, fun j hj => by rw [s 45 (by omega)]; exact h4 j hj, fun j a b c => by rw [s 31 (by omega)]; exact h5 j a b c⟩
theorem gC_s42 {g : GS} {cc c : Nat → Nat} {M M' : Mem} (h : RC (gC g cc) M) (s : sO 42 M M') (h42 : ∀ j, M' 42 j = nI (c j)) : RC (gC g c) M' := by
  obtain ⟨r1, r2, r3, r4⟩ := h
  refine ⟨fun k a b e j => ?_, fun j => ?_, ?_, fun j a b => ?_⟩
  · by_cases hk : k = 42
    · subst hk
      exact h42 j
    · rw [s k hk, r1 k a b e j]
      have e1 : ∀ c : Nat → Nat, gC g c k = g31 g 16 (pls g) k := fun c => if_neg hk
      rw [e1, e1]
  · rw [s 40 (by omega)]; exact r2 j
  · rw [s 31 (by omega)]; exact r3
  · rw [s 31 (by omega)]; exact r4 j a b
section FP
variable {E : Env0} {d : Nat} {Q : Int32 → Mem → Prop} {g : GS} {M0 : Mem}
/-- the end: all is put back -/
theorem m_finds_316 (hR : RC g M0) (k : ∀ M', (∀ k', k' ≠ 31 → k' ≠ 45 → k' ≠ 46 → k' ≠ 47 → M' k' = M0 k') → (∀ j, j ≠ 28 → j ≠ 29 → M' 31 j = M0 31 j) → M' 31 28 = 1 → BS g (M' 31 29) (M' 47) → Q 0 M') (o1 o2 o3 o4 o5 o6 o8 o9 : Option V) : ∀ (m j : Nat) (M : Mem), j + m = 10 → (∀ k', k' ≠ 31 → k' ≠ 42 → k' ≠ 45 → k' ≠ 46 → k' ≠ 47 → M k' = M0 k') → (∀ i, i < 10 → M 45 i = nI (g 42 i)) → (∀ i, i < j ∨ 10 ≤ i → M 42 i = nI (g 42 i)) → (∀ i, i ≠ 29 → M 31 i = M0 31 i) → BS g (M 31 29) (M 47) → JE E d n_M_finds 316 [some (.inr 31), o1, o2, o3, o4, o5, o6, some (.inl (nI j)), o8, o9] [] M Q := by
  intro m
  induction m with
  | zero =>
    intro j M hj h1 h2 h3 h4 h5
    refine b_M_finds_316 _ _ _ _ _ _ _ _ _ ⟨fun _ => ⟨z01_1, k _ (fun k' a b c e => ?_) (fun i a b => ?_) ?_ ?_⟩, fun c => absurd (nI_le (a := 10) (by omega) (by omega)) c⟩
    · rw [mset_ne _ _ _ a]
      by_cases q : k' = 42
      · subst q
        funext i
        rw [h3 i (by omega), hR.at 42 (by omega) (by omega) (by omega)]
      · exact h1 k' a q b c e
    · rw [mset_eq]
      show (if i = 28 then _ else _) = _
      rw [if_neg a]; exact h4 i b
    · rw [mset_eq]; exact if_pos rfl
    · rw [mset_eq, mset_ne _ _ _ (by omega)]
      exact h5
  | succ m ih =>
    intro j M hj h1 h2 h3 h4 h5
    have v : vp_in (nI j) 10 := vp_in_nI (by omega) (by omega)
    refine b_M_finds_316 _ _ _ _ _ _ _ _ _ ⟨fun c => absurd c (nI_ge (b := 10) (by omega) (by omega)), fun _ => ⟨v, v, ?_⟩⟩
    rw [nI_1, nI_clamp (by omega)]
    refine ih (j + 1) _ (by omega) (fun k' a b c e f => by rw [mset_ne _ _ _ b]; exact h1 k' a b c e f) (fun i hi => by rw [mset_ne _ _ _ (by omega)]; exact h2 i hi) (fun i hi => ?_) (fun i hi => by rw [mset_ne _ _ _ (by omega)]; exact h4 i hi) (by rw [mset_ne _ _ _ (by omega), mset_ne _ _ _ (by omega)]; exact h5)
    rw [mset_eq]
    unfold upd
    by_cases q : i = j
    · rw [if_pos q, q]; exact h2 j (by omega)
    · rw [if_neg q]; exact h3 i (by omega)
theorem m_finds_loop (hR : RC g M0) (hW : Wk g) (hn1 : 1 ≤ pls g) (k : ∀ M', (∀ k', k' ≠ 31 → k' ≠ 45 → k' ≠ 46 → k' ≠ 47 → M' k' = M0 k') → (∀ j, j ≠ 28 → j ≠ 29 → M' 31 j = M0 31 j) → M' 31 28 = 1 → BS g (M' 31 29) (M' 47) → Q 0 M') :
    ∀ (f : Nat) (r : Nat → Nat) (M : Mem) (o7 o8 o9 : Option V), 10 ^ (pls g) < f + vaN r (pls g) → pmN (pls g) r → (∀ j, j < pls g → M 46 j = nI (r j)) → FI g M0 M → BSo g (PD (pls g) r 0) (M 31 29) (M 47) → JE E (d + 4) n_M_finds 92 [some (.inr 31), some (.inl (M0 31 16)), some (.inl (M0 31 21)), some (.inl (M0 31 22)), some (.inl (M0 31 23)), some (.inl (M0 31 24)), some (.inl 1), o7, o8, o9] [] M Q := by
  have hp10 := hW.1
  have hWc : ∀ c', vC g c' → tkN (gC g c') ≤ 60000 := fun c' h => tkN_lt (hW.gc h)
  intro f
  induction f with
  | zero =>
    intro r M o7 o8 o9 hf hr
    have := vaN_b (r := r) (n := pls g) (fun j hj => by have := hr.1 j hj; omega)
    omega
  | succ f ih =>
    intro r M o7 o8 o9 hf hr h46 hF hB
    have hr10 : ∀ j, j < pls g → r j < 10 := fun j hj => by have := hr.1 j hj; omega
    -- the row is done
    have next : ∀ (w : Nat) (M : Mem) (o8 o9 : Option V) (x : Int32), (∀ j, j < pls g → M 46 j = nI (r j)) → FI g M0 M → BSo g (PD (pls g) r (2 ^ (pls g - 1))) (M 31 29) (M 47) → CE E (d + 3) n_M_nextRow [.inr 31, .inl (M 31 4)] M (fun r2 M2 => JE E (d + 4) n_M_finds 92 [some (.inr 31), some (.inl (M0 31 16)), some (.inl (M0 31 21)), some (.inl (M0 31 22)), some (.inl (M0 31 23)), some (.inl (M0 31 24)), some (.inl r2), some (.inl x), o8, o9] [] M2 Q) := by
      intro w M o8 o9 x h46 hF hB
      obtain ⟨⟨cc, hRc, hcc⟩, hF2, hF3, hF4⟩ := id hF
      have h4 : M 31 4 = nI (pls g) := hRc.2.2.1
      rw [h4]
      refine c_M_nextRow hn1 hp10 hr h46 (fun hlast => ?_) (fun t M' s' ht ht46 hrt hleast => ?_)
      · have hBS : BS g (M 31 29) (M 47) := hB.all (fun c hc _ => by
          obtain ⟨a1, a2, -⟩ := vC_row hc
          rcases ltR_tot (pls g) (roN c) r with q | q | q
          · exact Or.inl q
          · exact Or.inr ⟨q, a2⟩
          · exact absurd q (hlast _ a1))
        refine b_M_finds_92 _ _ _ _ _ _ _ _ _ ⟨fun _ => ?_, fun z => absurd rfl z⟩
        have ne : ∀ k', k' ≠ 31 → mset (mset (mset (mset (mset M 31 21 (M0 31 21)) 31 22 (M0 31 22)) 31 23 (M0 31 23)) 31 24 (M0 31 24)) 31 16 (M0 31 16) k' = M k' := fun k' hk' => by rw [mset_ne _ _ _ hk', mset_ne _ _ _ hk', mset_ne _ _ _ hk', mset_ne _ _ _ hk', mset_ne _ _ _ hk']
        have n31 : ∀ j, j ≠ 29 → mset (mset (mset (mset (mset M 31 21 (M0 31 21)) 31 22 (M0 31 22)) 31 23 (M0 31 23)) 31 24 (M0 31 24)) 31 16 (M0 31 16) 31 j = M0 31 j := fun j hj => by
          simp only [mset_eq, upd]
          split
          · next e => rw [e]
          · split
            · next e => rw [e]
            · split
              · next e => rw [e]
              · split
                · next e => rw [e]
                · split
                  · next e => rw [e]
                  · exact hF4 j (by omega) (by omega) hj
        have n29 : mset (mset (mset (mset (mset M 31 21 (M0 31 21)) 31 22 (M0 31 22)) 31 23 (M0 31 23)) 31 24 (M0 31 24)) 31 16 (M0 31 16) 31 29 = M 31 29 := by
          simp [mset_eq, upd]
        refine m_finds_316 hR k _ _ _ _ _ _ _ _ 10 0 _ (by omega) (fun k' a b c e f' => by rw [ne k' a]; exact hF2 k' a b c e f') (fun i hi => by rw [ne 45 (by omega)]; exact hF3 i hi) (fun i hi => ?_) n31 ?_
        · rw [ne 42 (by omega), hRc.at 42 (by omega) (by omega) (by omega)]
          show nI (cc i) = _
          rw [hcc i (by omega)]
        · rw [n29, ne 47 (by omega)]; exact hBS
      · refine ih t M' _ _ _ ?_ ht ht46 (hF.s46 s') ?_
        · have := vaN_lt hr10 hrt
          omega
        · rw [s' 31 (by omega), s' 47 (by omega)]
          refine hB.ext (fun c hc _ => ?_)
          obtain ⟨a1, a2, -⟩ := vC_row hc
          constructor
          · rintro (q | ⟨q, -⟩)
            · exact Or.inl (ltR_tr q hrt)
            · exact Or.inl (ltR_cl q hrt)
          · rintro (q | ⟨-, q⟩)
            · rcases ltR_tot (pls g) (roN c) r with q2 | q2 | q2
              · exact Or.inl q2
              · exact Or.inr ⟨q2, a2⟩
              · rcases hleast _ a1 q2 with q3 | q3
                · exact absurd (ltR_asy q q3) id
                · exact absurd (ltR_ne q q3) id
            · omega
    refine b_M_finds_92 _ _ _ _ _ _ _ _ _ ⟨fun z => absurd z (by decide), fun _ => ?_⟩
    have key : ∀ (m w : Nat) (M : Mem) (o8 o9 : Option V), w + m = 2 ^ (pls g - 1) → (∀ j, j < pls g → M 46 j = nI (r j)) → FI g M0 M → BSo g (PD (pls g) r w) (M 31 29) (M 47) → JE E (d + 4) n_M_finds 100 [some (.inr 31), some (.inl (M0 31 16)), some (.inl (M0 31 21)), some (.inl (M0 31 22)), some (.inl (M0 31 23)), some (.inl (M0 31 24)), some (.inl 1), some (.inl (nI w)), o8, o9] [] M Q := by
      intro m
      have h512 : 2 ^ (pls g - 1) ≤ 512 := by
        have : (2 : Nat) ^ (pls g - 1) ≤ 2 ^ 9 := Nat.pow_le_pow_right (by omega) (by omega)
        omega
      induction m with
      | zero =>
        intro w M o8 o9 hw h46 hF hB
        obtain ⟨⟨cc, hRc, hcc⟩, hF2, hF3, hF4⟩ := id hF
        have h4 : M 31 4 = nI (pls g) := hRc.2.2.1
        have hw' : w = 2 ^ (pls g - 1) := by omega
        have es : (1 : Int32) <<< ((M 31 4 - 1) &&& 31) = nI (2 ^ (pls g - 1)) := by
          rw [h4, show pls g = (pls g - 1) + 1 by omega, nI_sub1, one_shl _ (by omega)]
          rfl
        refine b_M_finds_100 _ _ _ _ _ _ _ _ _ (c_M_isInOrderA (r := r) hRc (hW.wa cc) (fun j hj => ⟨h46 j hj, hr10 j hj⟩) (fun o ho => ⟨fun _ => ?_, fun _ => ⟨fun _ => ?_, fun z => ?_⟩⟩))
        · exact next w M _ _ _ h46 hF (by rw [← hw']; exact hB)
        · exact next w M _ _ _ h46 hF (by rw [← hw']; exact hB)
        · rw [es] at z
          exact absurd (nI_le (by omega) (by omega)) z
      | succ m ihm =>
        intro w M o8 o9 hw h46 hF hB
        obtain ⟨⟨cc, hRc, hcc⟩, hF2, hF3, hF4⟩ := id hF
        have h4 : M 31 4 = nI (pls g) := hRc.2.2.1
        have hw' : w < 2 ^ (pls g - 1) := by omega
        have es : (1 : Int32) <<< ((M 31 4 - 1) &&& 31) = nI (2 ^ (pls g - 1)) := by
          rw [h4, show pls g = (pls g - 1) + 1 by omega, nI_sub1, one_shl _ (by omega)]
          rfl
        refine b_M_finds_100 _ _ _ _ _ _ _ _ _ (c_M_isInOrderA (r := r) hRc (hW.wa cc) (fun j hj => ⟨h46 j hj, hr10 j hj⟩) (fun o ho => ⟨fun c1 => ?_, fun _ => ⟨fun z => ?_, fun _ => ?_⟩⟩))
        · refine next w M _ _ _ h46 hF (hB.ext (fun c hc hg => ?_))
          constructor
          · rintro (q | ⟨q, q2⟩)
            · exact Or.inl q
            · exact Or.inr ⟨q, by omega⟩
          · rintro (q | ⟨q, q2⟩)
            · exact Or.inl q
            · exfalso
              rw [b2_z] at c1
              have ho' : o = true := ho.mpr (fun i j hij hj => by
                have := gd_ord hg i j hij hj
                have hj' : pls (gC g cc) = pls g := rfl
                rw [hj'] at hj
                have e1 := q i (by omega)
                have e2 := q j hj
                show ahB g (r j) (r i) = false
                rw [← e1, ← e2]
                exact this)
              rw [ho'] at c1
              exact absurd c1 (by decide)
        · rw [es] at z
          exact absurd z (nI_ge (by omega) (by omega))
        · refine m_finds_fill (n := pls g) (r := r) hp10 (by omega) _ _ (pls g) 0 M (by omega) h4 h46 (fun M1 s1 h1 => ?_)
          have hc : vC g (fun j => if j < pls g then cdM r w j else cc j) := vC_of hp10 hn1 hr (w := w) (fun j hj => if_pos hj)
          have hR1 : RC (gC g (fun j => if j < pls g then cdM r w j else cc j)) M1 := gC_s42 hRc s1 (fun j => by
            rw [h1 j]
            by_cases q : j < pls g
            · rw [if_pos (by omega), if_pos q]
            · rw [if_neg (by omega), if_neg q]
              exact hRc.at 42 (by omega) (by omega) (by omega) j)
          refine m_finds_one (P := PD (pls g) r w) (hW.gc hc) hWc hc hR1 (by rw [s1 31 (by omega), s1 47 (by omega)]; exact hB) _ _ (fun M2 o8' o9' e1 e2 hB2 => ?_)
          refine ihm (w + 1) M2 _ _ (by omega) (fun j hj => ?_) ⟨⟨_, hR1.frM (fun k' a b => e1 k' (by omega) (by omega)) (fun j hj => e2 j (by omega) (by omega)), fun j hj => by show (if j < pls g then _ else _) = _; rw [if_neg (by omega)]; exact hcc j hj⟩, fun k' a b c e f' => ?_, fun j hj => ?_, fun j a b c => ?_⟩ (hB2.ext (fun c hc' _ => ?_))
          · rw [e1 46 (by omega) (by omega), s1 46 (by omega)]; exact h46 j hj
          · rw [e1 k' a f', s1 k' b]; exact hF2 k' a b c e f'
          · rw [e1 45 (by omega) (by omega), s1 45 (by omega)]; exact hF3 j hj
          · rw [e2 j b c, s1 31 (by omega)]; exact hF4 j a b c
          · have ms := mk_step (g := g) (r := r) (c := c) (w := w) hp10 hr hw' hc'
            have eq2 : eqN (pls g) c (fun j => if j < pls g then cdM r w j else cc j) ↔ eqN (pls g) c (cdM r w) := by
              constructor
              · intro z j hj
                rw [z j hj]
                exact if_pos hj
              · intro z j hj
                rw [z j hj]
                exact (if_pos hj).symm
            show PD (pls g) r w c ∨ _ ↔ PD (pls g) r (w + 1) c
            unfold PD
            rw [ms, eq2, or_assoc]
    exact key (2 ^ (pls g - 1)) 0 M _ _ (by omega) h46 hF hB
end FP
