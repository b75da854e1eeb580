/-! Rings: the reference's search, and the desk's. -/
theorem nI_m1 {l : Nat} (h : 1 ≤ l) : nI l + (-1) = nI (l - 1) := by
  have e : nI l = nI (l - 1) + 1 := by
    rw [nI_1]
    congr 1
    omega
  rw [e, Int32.add_assoc, show (1 : Int32) + (-1) = 0 from rfl, Int32.add_zero]
theorem ah_self {g : GS} (h : ∀ p, g 39 (10 * p + p) = 0) (p : Nat) : ahB g p p = false := by
  unfold ahB
  rw [h p]
  simp
theorem cnt_rm {F : Nat → Bool} {x : Nat} (q1 : F x = false) : ∀ n i, cnt (fun z => !F z) n i ≤ cnt (fun z => !(F z || decide (z = x))) n i + (if i ≤ x then 1 else 0)
  | 0, i => Nat.zero_le _
  | n + 1, i => by
    have ih := cnt_rm q1 n (i + 1)
    rw [cnt, cnt]
    by_cases hix : i = x
    · subst hix
      rw [if_neg (by omega)] at ih
      have e1 : (!F i) = true := by simp [q1]
      have e2 : (!(F i || decide (i = i))) = false := by simp
      rw [if_pos (Nat.le_refl i), if_pos e1, e2, if_neg (by decide)]
      omega
    · have e1 : (!(F i || decide (i = x))) = !F i := by simp [hix]
      rw [e1]
      by_cases hx : i ≤ x
      · rw [if_pos (by omega)] at ih
        rw [if_pos hx]
        omega
      · rw [if_neg (by omega)] at ih
        rw [if_neg hx]
        omega
section RQ
variable {E : Env0} {d : Nat} {M : Mem} {Q : Int32 → Mem → Prop} {g : GS}
theorem RC.s44 (h : RC g M) {M' : Mem} (e : sO 44 M M') : RC g M' := by
  obtain ⟨r1, r2, r3, r4⟩ := h
  refine ⟨fun k a b c j => ?_, fun j => ?_, ?_, fun j a b => ?_⟩
  · rw [e k (by omega)]; exact r1 k a b c j
  · rw [e 40 (by omega)]; exact r2 j
  · rw [e 31 (by omega)]; exact r3
  · rw [e 31 (by omega)]; exact r4 j a b
theorem c_M_isRing (hR : RC g M) (hW : Wk g) (h39 : ∀ p, g 39 (10 * p + p) = 0) (k : ∀ M' r, sO 44 M M' → (r = true ↔ Rg (pls g) (ahB g)) → Q (b2 r) M') : CE E (d + 3) n_M_isRing [.inr 31] M Q := by
  have hp10 := hW.1
  have irr := ah_self h39
  have key30 : ∀ (f left : Nat) (F : Nat → Bool) (M1 : Mem) (o3 o4 o5 : Option V), left < f → left = cnt (fun x => !F x) (pls g) 0 → sO 44 M M1 → (∀ x, x < pls g → M1 44 x = b2 (F x)) → (∀ S : Nat → Bool, (∀ x, x < pls g → S x = true → ∃ y, y < pls g ∧ S y = true ∧ ahB g y x = true) → ∀ x, x < pls g → S x = true → F x = false) → JE E (d + 3) n_M_isRing 30 [some (.inr 31), some (.inl (nI left)), some (.inl 1), o3, o4, o5] [] M1 Q := by
    intro f
    induction f with
    | zero => intro left F M1 o3 o4 o5 h; omega
    | succ f ihf =>
      intro left0 F0 M0 o3 o4 o5 hf hl0 s0 hF0 hD0
      have hll0 : left0 ≤ 10 := by rw [hl0]; exact Nat.le_trans (cnt_le _ _ _) hp10
      have key38 : ∀ (m x left : Nat) (c : Bool) (F : Nat → Bool) (M1 : Mem) (o4 o5 : Option V), x + m = pls g → left = cnt (fun x => !F x) (pls g) 0 → left ≤ left0 → (c = true → left < left0) → sO 44 M M1 → (∀ x, x < pls g → M1 44 x = b2 (F x)) → (∀ S : Nat → Bool, (∀ x, x < pls g → S x = true → ∃ y, y < pls g ∧ S y = true ∧ ahB g y x = true) → ∀ x, x < pls g → S x = true → F x = false) → (c = false → ∀ x', x' < x → F x' = false → ∃ y, y < pls g ∧ F y = false ∧ ahB g y x' = true) → JE E (d + 3) n_M_isRing 38 [some (.inr 31), some (.inl (nI left)), some (.inl (b2 c)), some (.inl (nI x)), o4, o5] [] M1 Q := by
        intro m
        induction m with
        | zero =>
          intro x left c F M1 o4 o5 hx hl hle hc s1 hF hD hst
          have hR1 := hR.s44 s1
          have h4 : M1 31 4 = nI (pls g) := hR1.2.2.1
          refine b_M_isRing_38 _ _ _ _ _ ⟨fun _ => ?_, fun c1 => absurd (by rw [h4]; exact nI_le (by omega) (by omega)) c1⟩
          cases c with
          | true =>
            exact ihf left F M1 _ _ _ (by have := hc rfl; omega) hl s1 hF hD
          | false =>
            have hst := hst rfl
            refine b_M_isRing_30 _ _ _ _ _ ⟨fun _ => ?_, fun z => absurd rfl z⟩
            rw [zero_nI, nI_leI (by omega) (by omega), ← zero_nI]
            refine ⟨fun c2 => ⟨z01_0, k M1 false s1 ⟨fun z => absurd z (by decide), fun hr => ?_⟩⟩, fun c2 => ⟨z01_1, k M1 true s1 ⟨fun _ => ?_, fun _ => rfl⟩⟩⟩
            · obtain ⟨S, ⟨y, y1, y2⟩, hS⟩ := hr
              have := hD S hS y y1 y2
              have : 0 < cnt (fun x => !F x) (pls g) 0 := cnt_pos.mpr ⟨y, by omega, by omega, by simp [this]⟩
              omega
            · have : 0 < cnt (fun x => !F x) (pls g) 0 := by omega
              obtain ⟨y, a, b, e⟩ := cnt_pos.mp this
              refine ⟨fun x => !F x, ⟨y, by omega, e⟩, fun x hx1 hx2 => ?_⟩
              obtain ⟨z, z1, z2, z3⟩ := hst x (by omega) (by simpa using hx2)
              exact ⟨z, z1, by simp [z2], z3⟩
        | succ m ih =>
          intro x left c F M1 o4 o5 hx hl hle hc s1 hF hD hst
          have hR1 := hR.s44 s1
          have h4 : M1 31 4 = nI (pls g) := hR1.2.2.1
          have vx : vp_in (nI x) 10 := vp_in_nI (by omega) (by omega)
          -- who is ahead of x
          have key65 : ∀ (n y : Nat) (ok : Bool), y + n = pls g → (ok = true ↔ F x = false ∧ ∀ y', y' < y → F y' = false → ahB g y' x = false) → JE E (d + 3) n_M_isRing 65 [some (.inr 31), some (.inl (nI left)), some (.inl (b2 c)), some (.inl (nI x)), some (.inl (b2 ok)), some (.inl (nI y))] [] M1 Q := by
            intro n
            induction n with
            | zero =>
              intro y ok hy hok
              refine b_M_isRing_65 _ _ _ _ _ ⟨fun _ => ⟨fun c2 => ⟨vx, z01_1, ?_⟩, fun c2 => ?_⟩, fun c1 => absurd (by rw [h4]; exact nI_le (by omega) (by omega)) c1⟩
              · rw [b2_nz] at c2
                obtain ⟨q1, q2⟩ := hok.mp c2
                have hpos : 0 < cnt (fun x => !F x) (pls g) 0 := cnt_pos.mpr ⟨x, by omega, by omega, by simp [q1]⟩
                have hlt : cnt (fun z => !(F z || decide (z = x))) (pls g) 0 < cnt (fun z => !F z) (pls g) 0 := by
                  refine cnt_lt _ _ (fun j _ _ h => ?_) ⟨x, by omega, by omega, by simp, by simp [q1]⟩
                  simp at h
                  simp [h.1]
                have hge : cnt (fun z => !F z) (pls g) 0 ≤ cnt (fun z => !(F z || decide (z = x))) (pls g) 0 + 1 := by
                  have gen := cnt_rm q1
                  have := gen (pls g) 0
                  rw [if_pos (by omega)] at this
                  exact this
                rw [nI_m1 (by omega), nI_1, nI_clamp (by omega)]
                refine ih (x + 1) (left - 1) true (fun z => F z || decide (z = x)) _ _ _ (by omega) (by omega) (by omega) (fun _ => by omega) (s1.tr (sO.set 44 x _)) (fun z hz => ?_) (fun S hS z hz sz => ?_) (fun z => absurd z (by decide))
                · rw [mset_eq]
                  unfold upd
                  by_cases hzx : z = x
                  · rw [if_pos hzx]; simp [hzx, b2]
                  · rw [if_neg hzx, hF z hz]; simp [hzx]
                · have f1 := hD S hS z hz sz
                  have hzx : z ≠ x := by
                    intro e
                    subst e
                    obtain ⟨y', y1, y2, y3⟩ := hS z hz sz
                    have := q2 y' (by omega) (hD S hS y' y1 y2)
                    rw [this] at y3
                    exact absurd y3 (by decide)
                  simp [f1, hzx]
              · rw [b2_z] at c2
                rw [nI_1]
                refine ih (x + 1) left c F M1 _ _ (by omega) hl hle hc s1 hF hD (fun hcf x' hx' fx' => ?_)
                by_cases hxx : x' = x
                · subst hxx
                  apply Classical.byContradiction
                  intro hno
                  have : ok = true := hok.mpr ⟨fx', fun y' hy' fy' => by
                    cases hA : ahB g y' x'
                    · rfl
                    · exact absurd ⟨y', by omega, fy', hA⟩ hno⟩
                  rw [this] at c2
                  exact absurd c2 (by decide)
                · exact hst hcf x' (by omega) fx'
            | succ n ihn =>
              intro y ok hy hok
              have vy : vp_in (nI y) 10 := vp_in_nI (by omega) (by omega)
              have stay : (F y = false → ahB g y x = false) → JE E (d + 3) n_M_isRing 65 [some (.inr 31), some (.inl (nI left)), some (.inl (b2 c)), some (.inl (nI x)), some (.inl (b2 ok)), some (.inl (nI (y + 1)))] [] M1 Q := by
                intro hh
                refine ihn (y + 1) ok (by omega) ⟨fun h => ⟨(hok.mp h).1, fun y' hy' fy' => ?_⟩, fun h => hok.mpr ⟨h.1, fun y' hy' fy' => h.2 y' (by omega) fy'⟩⟩
                by_cases hyy : y' = y
                · subst hyy; exact hh fy'
                · exact (hok.mp h).2 y' (by omega) fy'
              refine b_M_isRing_65 _ _ _ _ _ ⟨fun c1 => absurd c1 (by rw [h4]; exact nI_ge (by omega) (by omega)), fun _ => ?_⟩
              rw [nI_eq (by omega) (by omega), nI_clamp (by omega), hF y (by omega), nI_1]
              refine ⟨fun c2 => stay (fun _ => by rw [c2]; exact irr x), fun c2 => ⟨vy, fun c3 => ?_, fun c3 => ?_⟩⟩
              · rw [b2_nz] at c3
                exact stay (fun h => by rw [h] at c3; exact absurd c3 (by decide))
              · rw [b2_z] at c3
                refine c_M_isAhead hR1 hW (by omega) (by omega) ⟨fun c4 => ?_, fun c4 => ?_⟩
                · rw [b2_z] at c4
                  exact stay (fun _ => c4)
                · rw [b2_nz] at c4
                  refine ihn (y + 1) false (by omega) ⟨fun z => absurd z (by decide), fun h => ?_⟩
                  have := h.2 y (by omega) c3
                  rw [this] at c4
                  exact absurd c4 (by decide)
          refine b_M_isRing_38 _ _ _ _ _ ⟨fun c1 => absurd c1 (by rw [h4]; exact nI_ge (by omega) (by omega)), fun _ => ⟨vx, ?_⟩⟩
          rw [nI_clamp (by omega), hF x (by omega)]
          refine ⟨fun c2 => ?_, fun c2 => ?_⟩
          · rw [b2_nz] at c2
            exact key65 (pls g) 0 false (by omega) ⟨fun z => absurd z (by decide), fun h => by rw [h.1] at c2; exact absurd c2 (by decide)⟩
          · rw [b2_z] at c2
            exact key65 (pls g) 0 true (by omega) ⟨fun _ => ⟨c2, fun y' hy' => by omega⟩, fun _ => rfl⟩
      refine b_M_isRing_30 _ _ _ _ _ ⟨fun z => absurd z (by decide), fun _ => ?_⟩
      exact key38 (pls g) 0 left0 false F0 M0 _ _ (by omega) hl0 (Nat.le_refl _) (fun z => absurd z (by decide)) s0 hF0 hD0 (fun _ x' hx' => by omega)
  have L2 : ∀ (n x : Nat) (M1 : Mem) (o2 o3 o4 o5 : Option V), x + n = pls g → sO 44 M M1 → (∀ x', x' < x → M1 44 x' = 0) → JE E (d + 3) n_M_isRing 2 [some (.inr 31), some (.inl (nI x)), o2, o3, o4, o5] [] M1 Q := by
    intro n
    induction n with
    | zero =>
      intro x M1 o2 o3 o4 o5 hx s1 h1
      have h4 : M1 31 4 = nI (pls g) := (hR.s44 s1).2.2.1
      refine b_M_isRing_2 _ _ _ _ _ ⟨fun _ => ?_, fun c1 => absurd (by rw [h4]; exact nI_le (by omega) (by omega)) c1⟩
      rw [h4]
      have call : ∀ n i, cnt (fun x => !(fun _ : Nat => false) x) n i = n := by
        intro n
        induction n with
        | zero => intro i; rfl
        | succ n ih => intro i; rw [cnt, ih]; simp; omega
      exact key30 (pls g + 1) (pls g) (fun _ => false) M1 _ _ _ (by omega) (call _ _).symm s1 (fun x' hx' => by rw [h1 x' (by omega)]; rfl) (fun _ _ _ _ _ => rfl)
    | succ n ih =>
      intro x M1 o2 o3 o4 o5 hx s1 h1
      have h4 : M1 31 4 = nI (pls g) := (hR.s44 s1).2.2.1
      refine b_M_isRing_2 _ _ _ _ _ ⟨fun c1 => absurd c1 (by rw [h4]; exact nI_ge (by omega) (by omega)), fun _ => ⟨vp_in_nI (by omega) (by omega), z01_0, ?_⟩⟩
      rw [nI_1, nI_clamp (by omega)]
      refine ih (x + 1) _ _ _ _ _ (by omega) (s1.tr (sO.set 44 x _)) (fun x' hx' => ?_)
      rw [mset_eq]
      unfold upd
      split
      · rfl
      · exact h1 x' (by omega)
  exact CE_of rfl (b_M_isRing_0 (L2 (pls g) 0 M _ _ _ _ (by omega) sO.rf (fun x' hx' => by omega)))
theorem c_B_withAllBefore {n : Nat} {A : Nat → Nat → Bool} {X : Nat → Bool} (hn : n ≤ 10) (h4 : M 1 4 = nI n) (h9 : ∀ p, p < n → M 9 p = nI (bitsOf (fun q => A q p) n)) (h : Q (nI (bitsOf (an n A X 10) n)) M) : CE E (d + 1) n_B_withAllBefore [.inr 1, .inl (nI (bitsOf X n))] M Q := by
  have hl : ∀ f : Nat → Bool, bitsOf f n < 2 ^ 31 := fun f => by
    have := bitsOf_lt f n
    have : 2 ^ n ≤ 2 ^ 10 := Nat.pow_le_pow_right (by omega) hn
    omega
  have key4 : ∀ (f r : Nat) (o1 o4 o5 : Option V), r + f = 10 → JE E (d + 1) n_B_withAllBefore 4 [some (.inr 1), o1, some (.inl (nI (bitsOf (an n A X r) n))), some (.inl (nI r)), o4, o5] [] M Q := by
    intro f
    induction f with
    | zero =>
      intro r o1 o4 o5 hr
      refine b_B_withAllBefore_4 _ _ _ _ _ ⟨fun _ => ?_, fun c1 => absurd (nI_le (a := 10) (by omega) (by omega)) c1⟩
      rw [show r = 10 by omega]
      exact h
    | succ f ih =>
      intro r o1 o4 o5 hr
      refine b_B_withAllBefore_4 _ _ _ _ _ ⟨fun c1 => absurd c1 (nI_ge (b := 10) (by omega) (by omega)), fun _ => ?_⟩
      have key16 : ∀ (m y : Nat), y + m = n → JE E (d + 1) n_B_withAllBefore 16 [some (.inr 1), o1, some (.inl (nI (bitsOf (an n A X r) n))), some (.inl (nI r)), some (.inl (nI (bitsOf (fun x => an n A X r x || decide (0 < cnt (fun y => an n A X r y && A x y) y 0)) n))), some (.inl (nI y))] [] M Q := by
        intro m
        induction m with
        | zero =>
          intro y hy
          refine b_B_withAllBefore_16 _ _ _ _ _ ⟨fun _ => ?_, fun c1 => absurd (by rw [h4]; exact nI_le (by omega) (by omega)) c1⟩
          rw [nI_1, show y = n by omega]
          exact ih (r + 1) _ _ _ (by omega)
        | succ m ihm =>
          intro y hy
          refine b_B_withAllBefore_16 _ _ _ _ _ ⟨fun c1 => absurd c1 (by rw [h4]; exact nI_ge (by omega) (by omega)), fun _ => ?_⟩
          have hb : (bitsOf (an n A X r) n).testBit y = an n A X r y := by
            rw [bitsOf_bit]
            have : decide (y < n) = true := by simp; omega
            rw [this, Bool.true_and]
          refine c_D_hasBit (hl _) (by omega) ?_
          rw [hb, nI_1]
          refine ⟨fun c2 => ?_, fun c2 => ⟨vp_in_nI (by omega) (by omega), ?_⟩⟩
          · rw [b2_z] at c2
            have := ihm (y + 1) (by omega)
            have e : (fun x => an n A X r x || decide (0 < cnt (fun y => an n A X r y && A x y) (y + 1) 0)) = fun x => an n A X r x || decide (0 < cnt (fun y => an n A X r y && A x y) y 0) := by
              funext x
              rw [cnt_last, Nat.zero_add, c2]
              rfl
            rw [e] at this
            exact this
          · rw [b2_nz] at c2
            have := ihm (y + 1) (by omega)
            have e : bitsOf (fun x => an n A X r x || decide (0 < cnt (fun y => an n A X r y && A x y) (y + 1) 0)) n = bitsOf (fun x => an n A X r x || decide (0 < cnt (fun y => an n A X r y && A x y) y 0)) n ||| bitsOf (fun q => A q y) n := by
              apply bits_ext
              intro i
              rw [Nat.testBit_or, bitsOf_bit, bitsOf_bit, bitsOf_bit, cnt_last, Nat.zero_add, c2]
              cases hA : A i y <;> cases an n A X r i <;> cases hd : decide (i < n) <;> simp
            rw [e, ← fa_or] at this
            rw [nI_clamp (by omega), h9 y (by omega)]
            exact this
      have := key16 n 0 (by omega)
      have e : (fun x => an n A X r x || decide (0 < cnt (fun y => an n A X r y && A x y) 0 0)) = an n A X r := by
        funext x
        rw [cnt]
        simp
      rw [e] at this
      exact this
  exact CE_of rfl (b_B_withAllBefore_0 _ (key4 10 0 _ _ _ (by omega)))
end RQ
