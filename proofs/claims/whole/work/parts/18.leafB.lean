/-! Small methods of the class. -/
section LB
variable {E : Env0} {d : Nat} {M : Mem} {Q : Int32 → Mem → Prop}
theorem c_R_placeAt {i c : Nat} (hi : i < 10) (hc : c < 2 ^ 31) (hM : M 16 i = nI c) (h : Q (nI (c % 16)) M) : CE E d n_R_placeAt [.inr 15, .inl (nI i)] M Q := by
  refine CE_of rfl (b_R_placeAt_0 _ ⟨vp_in_nI hi (by omega), nz16, ?_⟩)
  rw [nI_clamp (by omega), hM]
  have := pk_rem (a := c) (d := 16) hc (by omega) (by omega)
  rw [show (16 : Int32) = nI 16 from rfl, this]
  exact h
theorem c_R_beginsAt {i c : Nat} (hi : i < 10) (hc : c < 2 ^ 31) (hM : M 16 i = nI c) (h : Q (b2 (decide (16 ≤ c))) M) : CE E d n_R_beginsAt [.inr 15, .inl (nI i)] M Q := by
  refine CE_of rfl (b_R_beginsAt_0 _ ⟨vp_in_nI hi (by omega), fun c1 => ⟨z01_0, ?_⟩, fun c1 => ⟨z01_1, ?_⟩⟩)
  · rw [nI_clamp (by omega), hM, show (16 : Int32) = nI 16 from rfl, nI_ltI hc (by omega)] at c1
    have : ¬ 16 ≤ c := by omega
    simpa [b2, this] using h
  · rw [nI_clamp (by omega), hM, show (16 : Int32) = nI 16 from rfl, nI_ltI hc (by omega)] at c1
    have : 16 ≤ c := by omega
    simpa [b2, this] using h
theorem c_R_endOfTour {i n : Nat} {f : Nat → Nat} (hn : n ≤ 10) (hi : i < n) (hl : M 15 1 = nI n) (hf : ∀ j, j < n → f j < 2 ^ 31 ∧ M 16 j = nI (f j)) (h : Q (nI (fst (fun j => decide (16 ≤ f j)) (n - (i + 1)) (i + 1))) M) : CE E (d + 1) n_R_endOfTour [.inr 15, .inl (nI i)] M Q := by
  refine CE_of rfl (b_R_endOfTour_0 _ ?_)
  rw [nI_1]
  have key : ∀ (k j : Nat) (o1 : Option V), j + k = n → i < j → Q (nI (fst (fun j => decide (16 ≤ f j)) k j)) M → JE E (d + 1) n_R_endOfTour 4 [some (.inr 15), o1, some (.inl (nI j))] [] M Q := by
    intro k
    induction k with
    | zero =>
      intro j o1 hj hij hq
      refine b_R_endOfTour_4 _ _ ⟨fun _ => ?_, fun c1 => absurd (by rw [hl]; exact nI_le (by omega) (by omega)) c1⟩
      rw [hl, show n = j by omega]
      exact hq
    | succ k ih =>
      intro j o1 hj hij hq
      refine b_R_endOfTour_4 _ _ ⟨fun c1 => absurd c1 (by rw [hl]; exact nI_ge (by omega) (by omega)), fun _ => ?_⟩
      obtain ⟨h1, h2⟩ := hf j (by omega)
      refine c_R_beginsAt (by omega) h1 h2 ⟨fun c2 => ?_, fun c2 => ?_⟩
      · rw [b2_z] at c2
        rw [nI_1]
        refine ih (j + 1) o1 (by omega) (by omega) ?_
        rw [fst, if_neg (by rw [c2]; decide)] at hq
        exact hq
      · rw [b2_nz] at c2
        rw [fst, if_pos c2] at hq
        exact hq
  exact key (n - (i + 1)) (i + 1) _ (by omega) (by omega) h
theorem c_R_tours {n : Nat} {f : Nat → Nat} (hn : n ≤ 10) (hl : M 15 1 = nI n) (hf : ∀ j, j < n → f j < 2 ^ 31 ∧ M 16 j = nI (f j)) (h : Q (nI (cnt (fun j => decide (16 ≤ f j)) n 0)) M) : CE E (d + 1) n_R_tours [.inr 15] M Q := by
  refine CE_of rfl (b_R_tours_0 ?_)
  have key : ∀ (k j t : Nat), j + k = n → Q (nI (t + cnt (fun j => decide (16 ≤ f j)) k j)) M → JE E (d + 1) n_R_tours 4 [some (.inr 15), some (.inl (nI t)), some (.inl (nI j))] [] M Q := by
    intro k
    induction k with
    | zero =>
      intro j t hj hq
      exact b_R_tours_4 _ _ ⟨fun _ => hq, fun c1 => absurd (by rw [hl]; exact nI_le (by omega) (by omega)) c1⟩
    | succ k ih =>
      intro j t hj hq
      refine b_R_tours_4 _ _ ⟨fun c1 => absurd c1 (by rw [hl]; exact nI_ge (by omega) (by omega)), fun _ => ?_⟩
      obtain ⟨h1, h2⟩ := hf j (by omega)
      rw [cnt] at hq
      refine c_R_beginsAt (by omega) h1 h2 ⟨fun c2 => ?_, fun c2 => ?_⟩
      · rw [b2_z] at c2
        rw [nI_1]
        refine ih (j + 1) t (by omega) ?_
        rw [if_neg (by rw [c2]; decide), Nat.zero_add] at hq
        exact hq
      · rw [b2_nz] at c2
        rw [nI_1, nI_1]
        refine ih (j + 1) (t + 1) (by omega) ?_
        rw [if_pos c2, ← Nat.add_assoc] at hq
        exact hq
  exact key n 0 0 (by omega) (by rw [Nat.zero_add]; exact h)
theorem c_R_empty (h : Q 0 (mset (mset M 15 1 0) 15 2 0)) : CE E d n_R_empty [.inr 15] M Q := CE_of rfl (b_R_empty_0 h)
theorem c_R_holds {b p : Nat} (hb : b < 2 ^ 31) (hp : p < 31) (hM : M 15 2 = nI b) (h : Q (b2 (b.testBit p)) M) : CE E (d + 1) n_R_holds [.inr 15, .inl (nI p)] M Q := by
  refine CE_of rfl (b_R_holds_0 _ ?_)
  rw [hM]
  exact c_D_hasBit hb hp ⟨b2_01 _, h⟩
theorem c_R_append {n b p : Nat} {z : Bool} (hn : n < 10) (hp : p < 16) (hl : M 15 1 = nI n) (hb : M 15 2 = nI b) (h : Q 0 (mset (mset (mset M 16 n (nI (if z = true ∨ n = 0 then p + 16 else p))) 15 2 (nI (b ||| 2 ^ p))) 15 1 (nI (n + 1)))) : CE E d n_R_append [.inr 15, .inl (nI p), .inl (b2 z)] M Q := by
  have e1 : M 15 1 < 10 := by rw [hl]; exact nI_lt (b := 10) hn (by omega)
  have hin : vp_in (M 15 1) 10 := by rw [hl]; exact vp_in_nI hn (by omega)
  refine CE_of rfl (b_R_append_0 _ _ ⟨fun _ => ⟨fun c2 => ⟨hin, ?_⟩, fun c2 => ⟨fun c3 => ⟨hin, ?_⟩, fun c3 => ⟨hin, ?_⟩⟩⟩, fun c1 => absurd e1 c1⟩)
  · rw [b2_nz] at c2
    rw [hl, hb, nI_clamp (by omega), or_bit b p (by omega), nI_1, show (16 : Int32) = nI 16 from rfl, nI_add]
    rw [if_pos (Or.inl c2)] at h
    exact h
  · rw [b2_z] at c2
    rw [hl, show (0 : Int32) = nI 0 from rfl, nI_eq (by omega) (by omega)] at c3
    rw [hl, hb, nI_clamp (by omega), or_bit b p (by omega), nI_1]
    rw [if_neg (by rw [c2]; simp; exact c3)] at h
    exact h
  · rw [hl, show (0 : Int32) = nI 0 from rfl, nI_eq (by omega) (by omega)] at c3
    rw [hl, hb, nI_clamp (by omega), or_bit b p (by omega), nI_1, show (16 : Int32) = nI 16 from rfl, nI_add]
    rw [if_pos (Or.inr c3)] at h
    exact h
theorem c_S_fill {s : Nat} {x y : Int32} (hs : s < 8) (h : Q 0 (mset (mset M 12 s x) 13 s y)) : CE E d n_S_fill [.inr 11, .inl (nI s), .inl x, .inl y] M Q := by
  refine CE_of rfl (b_S_fill_0 _ _ _ ⟨vp_in_nI hs (by omega), vp_in_nI hs (by omega), ?_⟩)
  rw [nI_clamp (by omega)]
  exact h
theorem c_S_lowestOf {k : Nat} {f : Nat → Nat} (hk : k < 2 ^ 30) (hf : ∀ s, s < 8 → f s < 2 ^ 30 ∧ M 12 s = nI (f s) - 1) (h : Q (e8 (fst (fun s => f s == k + 1) 8 0)) M) : CE E d n_S_lowestOf [.inr 11, .inl (nI k)] M Q := by
  refine CE_of rfl (b_S_lowestOf_0 _ ?_)
  have key : ∀ (n s : Nat), s + n = 8 → Q (e8 (fst (fun s => f s == k + 1) n s)) M → JE E d n_S_lowestOf 2 [some (.inr 11), some (.inl (nI k)), some (.inl (nI s))] [] M Q := by
    intro n
    induction n with
    | zero =>
      intro s hs hq
      refine b_S_lowestOf_2 _ _ ⟨fun _ => ?_, fun c1 => absurd (nI_le (show 8 ≤ s by omega) (by omega)) c1⟩
      have e : fst (fun s => f s == k + 1) 0 s = 8 := by unfold fst; omega
      rw [e] at hq
      exact hq
    | succ n ih =>
      intro s hs hq
      refine b_S_lowestOf_2 _ _ ⟨fun c1 => absurd c1 (nI_ge (b := 8) (show s < 8 by omega) (by omega)), fun _ => ⟨vp_in_nI (by omega) (by omega), fun c2 => ?_, fun c2 => ?_⟩⟩
      · obtain ⟨h1, h2⟩ := hf s (by omega)
        rw [nI_clamp (by omega), h2, shift_eq h1 hk] at c2
        rw [nI_1]
        refine ih (s + 1) (by omega) ?_
        rw [fst, if_neg (by simpa using c2)] at hq
        exact hq
      · obtain ⟨h1, h2⟩ := hf s (by omega)
        rw [nI_clamp (by omega), h2, shift_eq h1 hk] at c2
        rw [fst, if_pos (by simpa using c2)] at hq
        rw [e8, if_pos (by omega)] at hq
        exact hq
  exact key 8 0 rfl h
theorem c_B_nozzleOf {p k n : Nat} (hp : p < 10) (hk : k < 8) (h8 : M 8 p = nI k) (h4 : M 4 k = nI n) (h : Q (nI n) M) : CE E d n_B_nozzleOf [.inr 1, .inl (nI p)] M Q := by
  refine CE_of rfl (b_B_nozzleOf_0 _ ?_)
  rw [nI_clamp (by omega), h8, nI_clamp (by omega), h4]
  exact ⟨vp_in_nI hp (by omega), vp_in_nI hk (by omega), h⟩
theorem c_B_isFine {p k : Nat} {z : Bool} (hp : p < 10) (hk : k < 8) (h8 : M 8 p = nI k) (h5 : M 5 k = b2 z) (h : Q (b2 z) M) : CE E d n_B_isFine [.inr 1, .inl (nI p)] M Q := by
  refine CE_of rfl (b_B_isFine_0 _ ?_)
  rw [nI_clamp (by omega), h8, nI_clamp (by omega), h5]
  exact ⟨vp_in_nI hp (by omega), vp_in_nI hk (by omega), b2_01 _, h⟩
theorem c_B_hasPlaceOf {k n : Nat} {f : Nat → Nat} (hk : k < 2 ^ 31) (hn : n ≤ 10) (hl : M 1 4 = nI n) (hf : ∀ p, p < n → f p < 2 ^ 31 ∧ M 8 p = nI (f p)) (h : Q (b2 (decide (fst (fun p => f p == k) n 0 < n))) M) : CE E d n_B_hasPlaceOf [.inr 1, .inl (nI k)] M Q := by
  refine CE_of rfl (b_B_hasPlaceOf_0 _ ?_)
  have key : ∀ (m s : Nat), s + m = n → Q (b2 (decide (fst (fun p => f p == k) m s < n))) M → JE E d n_B_hasPlaceOf 2 [some (.inr 1), some (.inl (nI k)), some (.inl (nI s))] [] M Q := by
    intro m
    induction m with
    | zero =>
      intro s hs hq
      refine b_B_hasPlaceOf_2 _ _ ⟨fun _ => ⟨z01_0, ?_⟩, fun c1 => absurd (by rw [hl]; exact nI_le (by omega) (by omega)) c1⟩
      have e : ¬ fst (fun p => f p == k) 0 s < n := by unfold fst; omega
      simpa [b2, e] using hq
    | succ m ih =>
      intro s hs hq
      obtain ⟨h1, h2⟩ := hf s (by omega)
      refine b_B_hasPlaceOf_2 _ _ ⟨fun c1 => absurd c1 (by rw [hl]; exact nI_ge (by omega) (by omega)), fun _ => ⟨vp_in_nI (by omega) (by omega), fun c2 => ?_, fun c2 => ⟨z01_1, ?_⟩⟩⟩
      · rw [nI_clamp (by omega), h2, nI_eq h1 hk] at c2
        rw [nI_1]
        refine ih (s + 1) (by omega) ?_
        rw [fst, if_neg (by simpa using c2)] at hq
        exact hq
      · rw [nI_clamp (by omega), h2, nI_eq h1 hk] at c2
        rw [fst, if_pos (by simpa using c2)] at hq
        have e : s < n := by omega
        simpa [b2, e] using hq
  exact key n 0 (by omega) h
end LB
