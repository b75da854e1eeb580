/-! The reference's next row. -/
def swI (i y m : Nat) : Nat := if m = i then y else if m = y then i else m
def rvI (n i j : Nat) : Nat := if j ≤ i then j else n + i - j
theorem pm_comp {n : Nat} {r q : Nat → Nat} (hr : pmN n r) (h1 : ∀ j, j < n → q j < n) (h2 : ∀ i j, i < j → j < n → q i ≠ q j) : pmN n (fun j => r (q j)) := by
  refine ⟨fun j hj => hr.1 _ (h1 j hj), fun i j hij hj e => ?_⟩
  have a := h1 i (by omega)
  have b := h1 j hj
  have c := h2 i j hij hj
  rcases Nat.lt_or_gt_of_ne c with q1 | q1
  · exact hr.2 _ _ q1 b e
  · exact hr.2 _ _ q1 a e.symm
section NX
variable {E : Env0} {d : Nat} {M : Mem} {Q : Int32 → Mem → Prop}
theorem c_M_nextRow {n : Nat} {r : Nat → Nat} (hn1 : 1 ≤ n) (hn : n ≤ 10) (hr : pmN n r) (hM : ∀ j, j < n → M 46 j = nI (r j))
    (k0 : (∀ s, pmN n s → ¬ ltR n r s) → Q 0 M)
    (k1 : ∀ t M', sO 46 M M' → pmN n t → (∀ j, j < n → M' 46 j = nI (t j)) → ltR n r t → (∀ s, pmN n s → ltR n r s → ltR n t s ∨ ∀ j, j < n → s j = t j) → Q 1 M') : CE E d n_M_nextRow [.inr 31, .inl (nI n)] M Q := by
  have hlt : ∀ j, j < n → r j < 2 ^ 31 := fun j hj => by have := hr.1 j hj; omega
  -- turning round what is behind i
  have L100 : ∀ (i : Nat) (u t : Nat → Nat), i < n → (∀ j, j ≤ i → t j = u j) → (∀ j, i < j → j < n → t j = u (n + i - j)) → ∀ (f lo hi : Nat) (M1 : Mem) (o1 o2 o3 o4 : Option V), hi < lo + f → lo + hi = n + i → i < lo → hi < n → sO 46 M M1 → (∀ j, j < n → M1 46 j = nI (if lo ≤ j ∧ j ≤ hi then u j else t j)) → (∀ M', sO 46 M M' → (∀ j, j < n → M' 46 j = nI (t j)) → Q 1 M') → JE E d n_M_nextRow 100 [some (.inr 31), o1, o2, o3, o4, some (.inl (nI lo)), some (.inl (nI hi))] [] M1 Q := by
    intro i u t hi0 ht1 ht2 f
    induction f with
    | zero =>
      intro lo hi M1 o1 o2 o3 o4 hf hs hl hh s1 h1 kk
      refine b_M_nextRow_100 _ _ _ _ _ _ ⟨fun _ => ⟨z01_1, kk M1 s1 (fun j hj => ?_)⟩, fun c1 => absurd (nI_le (by omega) (by omega)) c1⟩
      rw [h1 j hj, if_neg (by omega)]
    | succ f ih =>
      intro lo hi M1 o1 o2 o3 o4 hf hs hl hh s1 h1 kk
      by_cases hle : hi ≤ lo
      · refine b_M_nextRow_100 _ _ _ _ _ _ ⟨fun _ => ⟨z01_1, kk M1 s1 (fun j hj => ?_)⟩, fun c1 => absurd (nI_le hle (by omega)) c1⟩
        rw [h1 j hj]
        split
        · next c =>
          rw [ht2 j (by omega) hj, show n + i - j = j by omega]
        · rfl
      · have vl : vp_in (nI lo) 10 := vp_in_nI (by omega) (by omega)
        have vh : vp_in (nI hi) 10 := vp_in_nI (by omega) (by omega)
        refine b_M_nextRow_100 _ _ _ _ _ _ ⟨fun c1 => absurd c1 (nI_ge (by omega) (by omega)), fun _ => ⟨vl, vh, vl, vh, ?_⟩⟩
        rw [nI_1, nI_m1 (by omega), nI_clamp (by omega), nI_clamp (by omega)]
        refine ih (lo + 1) (hi - 1) _ _ _ _ _ (by omega) (by omega) (by omega) (by omega) ((s1.tr (sO.set 46 _ _)).tr (sO.set 46 _ _)) (fun j hj => ?_) kk
        have el : M1 46 lo = nI (u lo) := by rw [h1 lo (by omega), if_pos (by omega)]
        have eh : M1 46 hi = nI (u hi) := by rw [h1 hi (by omega), if_pos (by omega)]
        rw [mset_eq, mset_eq, el, eh]
        unfold upd
        by_cases q1 : j = hi
        · rw [if_pos q1, if_neg (by omega), q1, ht2 hi (by omega) (by omega), show n + i - hi = lo by omega]
        · rw [if_neg q1]
          by_cases q2 : j = lo
          · rw [if_pos q2, if_neg (by omega), q2, ht2 lo (by omega) (by omega), show n + i - lo = hi by omega]
          · rw [if_neg q2, h1 j hj]
            by_cases q3 : lo ≤ j ∧ j ≤ hi
            · rw [if_pos q3, if_pos (by omega)]
            · rw [if_neg q3, if_neg (by omega)]
  have en : nI n - 1 = nI (n - 1) := by
    rw [show n = (n - 1) + 1 by omega, nI_sub1]
    rfl
  -- the one to change with is found
  have go : ∀ (i y : Nat), (∀ j, i + 1 ≤ j → j + 1 < n → r (j + 1) < r j) → i < y → y < n → (∀ j, y < j → j < n → r j < r i) → r i < r y → ∀ (o4 o5 o6 : Option V), JE E d n_M_nextRow 41 [some (.inr 31), some (.inl (nI n)), some (.inl (nI i)), some (.inl (nI y)), o4, o5, o6] [] M Q := by
    intro i y hf hiy hyn hbe hry o4 o5 o6
    have vi : vp_in (nI i) 10 := vp_in_nI (by omega) (by omega)
    have vy : vp_in (nI y) 10 := vp_in_nI (by omega) (by omega)
    have bi := hlt i (by omega)
    have by' := hlt y hyn
    refine b_M_nextRow_41 _ _ _ _ _ _ ?_
    rw [nI_clamp (by omega), nI_clamp (by omega), hM i (by omega), hM y hyn, nI_leI bi by', en, nI_1]
    refine ⟨vy, vi, fun _ => ⟨vi, vy, vi, vy, ?_⟩, fun c => absurd (by omega) c⟩
    have sw1 : swI i y i = y := if_pos rfl
    have sw2 : swI i y y = i := by unfold swI; rw [if_neg (by omega), if_pos rfl]
    have sw3 : ∀ j, j ≠ i → j ≠ y → swI i y j = j := fun j a b => by unfold swI; rw [if_neg a, if_neg b]
    have tpm : pmN n (fun j => r (swI i y (rvI n i j))) := by
      refine pm_comp (q := fun j => swI i y (rvI n i j)) hr (fun j hj => ?_) (fun a b hab hb => ?_)
      · show swI i y (rvI n i j) < n
        unfold swI rvI
        split <;> split <;> (try split) <;> omega
      · show swI i y (rvI n i a) ≠ swI i y (rvI n i b)
        have inj : ∀ p q, p ≠ q → swI i y p ≠ swI i y q := by
          intro p q hpq
          unfold swI
          split <;> split <;> (try split) <;> (try split) <;> omega
        refine inj _ _ ?_
        unfold rvI
        split <;> split <;> omega
    have uf : ∀ j, i + 1 ≤ j → j + 1 < n → r (swI i y (j + 1)) < r (swI i y j) := by
      intro j a b
      by_cases q1 : j + 1 = y
      · rw [q1, sw2, sw3 j (by omega) (by omega)]
        have := hf j a b
        rw [q1] at this
        omega
      · by_cases q2 : j = y
        · rw [q2, sw2, sw3 (y + 1) (by omega) (by omega)]
          exact hbe (y + 1) (by omega) (by omega)
        · rw [sw3 j (by omega) q2, sw3 (j + 1) (by omega) q1]
          exact hf j a b
    have rv1 : ∀ j, j ≤ i → rvI n i j = j := fun j h => if_pos h
    have rv2 : ∀ j, i < j → rvI n i j = n + i - j := fun j h => if_neg (by omega)
    obtain ⟨n1, n2⟩ := row_next (n := n) (i := i) (x := y) (r := r) (t := fun j => r (swI i y (rvI n i j))) hr tpm hiy hyn hf hry hbe (fun j hj => by
      show r (swI i y (rvI n i j)) = r j
      rw [rv1 j (by omega), sw3 j (by omega) (by omega)]) (by
      show r (swI i y (rvI n i i)) = r y
      rw [rv1 i (by omega), sw1]) (fun j a b => by
      show r (swI i y (rvI n i j)) < r (swI i y (rvI n i (j + 1)))
      rw [rv2 j (by omega), rv2 (j + 1) (by omega)]
      have := uf (n + i - (j + 1)) (by omega) (by omega)
      rw [show n + i - (j + 1) + 1 = n + i - j by omega] at this
      exact this)
    refine L100 i (fun j => r (swI i y j)) (fun j => r (swI i y (rvI n i j))) (by omega) (fun j hj => by show r (swI i y (rvI n i j)) = _; rw [rv1 j hj]) (fun j a b => by show r (swI i y (rvI n i j)) = _; rw [rv2 j a]) n (i + 1) (n - 1) _ _ _ _ _ (by omega) (by omega) (by omega) (by omega) ((sO.set 46 _ _).tr (sO.set 46 _ _)) (fun j hj => ?_) (fun M' s' h' => k1 _ M' s' tpm h' n1 n2)
    have e : (if i + 1 ≤ j ∧ j ≤ n - 1 then r (swI i y j) else r (swI i y (rvI n i j))) = r (swI i y j) := by
      split
      · rfl
      · rw [rv1 j (by omega)]
    show _ = nI (if i + 1 ≤ j ∧ j ≤ n - 1 then r (swI i y j) else r (swI i y (rvI n i j)))
    rw [e, mset_eq, mset_eq]
    unfold upd
    by_cases q1 : j = y
    · rw [if_pos q1, q1, sw2]
    · rw [if_neg q1]
      by_cases q2 : j = i
      · rw [if_pos q2, q2, sw1]
      · rw [if_neg q2, sw3 j q2 q1]
        exact hM j hj
  have L41 : ∀ (i : Nat), i + 1 < n → r i < r (i + 1) → (∀ j, i + 1 ≤ j → j + 1 < n → r (j + 1) < r j) → ∀ (m y : Nat) (o4 o5 o6 : Option V), y = i + 1 + m → y < n → (∀ j, y < j → j < n → r j < r i) → JE E d n_M_nextRow 41 [some (.inr 31), some (.inl (nI n)), some (.inl (nI i)), some (.inl (nI y)), o4, o5, o6] [] M Q := by
    intro i hi hpv hf m
    induction m with
    | zero =>
      intro y o4 o5 o6 hy hyn hbe
      exact go i y hf (by omega) hyn hbe (by rw [show y = i + 1 by omega]; exact hpv) _ _ _
    | succ m ih =>
      intro y o4 o5 o6 hy hyn hbe
      by_cases hq : r i < r y
      · exact go i y hf (by omega) hyn hbe hq _ _ _
      · have hne := hr.2 i y (by omega) hyn
        refine b_M_nextRow_41 _ _ _ _ _ _ ⟨vp_in_nI (by omega) (by omega), vp_in_nI (by omega) (by omega), fun c => ?_, fun _ => ?_⟩
        · rw [nI_clamp (by omega), nI_clamp (by omega), hM i (by omega), hM y hyn, nI_leI (hlt i (by omega)) (hlt y hyn)] at c
          omega
        · rw [nI_m1 (by omega)]
          refine ih (y - 1) _ _ _ (by omega) (by omega) (fun j a b => ?_)
          by_cases q : j = y
          · rw [q]; omega
          · exact hbe j (by omega) b
  -- the pivot
  have L4 : ∀ (a : Nat) (o3 o4 o5 o6 : Option V), a + 1 ≤ n → (∀ j, a ≤ j → j + 1 < n → r (j + 1) < r j) → JE E d n_M_nextRow 4 [some (.inr 31), some (.inl (nI n)), some (.inl (nI a - 1)), o3, o4, o5, o6] [] M Q := by
    intro a
    induction a with
    | zero =>
      intro o3 o4 o5 o6 ha hf
      refine b_M_nextRow_4 _ _ _ _ _ _ ⟨fun _ => ⟨fun z => absurd z (by decide), fun _ => ⟨z01_0, k0 (fun s hs => row_last hr hs (fun j hj => hf j (by omega) hj))⟩⟩, fun z => absurd (by decide) z⟩
    | succ i ih =>
      intro o3 o4 o5 o6 ha hf
      rw [nI_sub1]
      have h0 : (0 : Int32) ≤ nI i := by rw [zero_nI]; exact nI_le (by omega) (by omega)
      have hnl : ¬ nI i < 0 := by rw [zero_nI, nI_ltI (by omega) (by omega)]; omega
      have hne := hr.2 i (i + 1) (by omega) (by omega)
      refine b_M_nextRow_4 _ _ _ _ _ _ ⟨fun z => absurd z hnl, fun _ => ?_⟩
      rw [nI_1, nI_clamp (by omega), nI_clamp (by omega), hM i (by omega), hM (i + 1) (by omega), nI_leI (hlt i (by omega)) (hlt (i + 1) (by omega)), en]
      refine ⟨vp_in_nI (by omega) (by omega), vp_in_nI (by omega) (by omega), fun c => ⟨fun _ => ?_, fun z => absurd h0 z⟩, fun c => ?_⟩
      · exact L41 i (by omega) (by omega) hf (n - 1 - (i + 1)) (n - 1) _ _ _ (by omega) (by omega) (fun j a b => by omega)
      · rw [show nI i + (-1) = nI i - 1 from (Int32.sub_eq_add_neg _ _).symm]
        refine ih _ _ _ _ (by omega) (fun j a b => ?_)
        by_cases q : j = i
        · rw [q]; omega
        · exact hf j (by omega) b
  refine CE_of rfl (b_M_nextRow_0 _ ?_)
  have e2 : nI n - 2 = nI (n - 1) - 1 := by
    rw [← en]
    show nI n - 2 = nI n - 1 - 1
    rw [Int32.sub_sub]
    rfl
  rw [e2]
  exact L4 (n - 1) _ _ _ _ (by omega) (fun j a b => by omega)
end NX
