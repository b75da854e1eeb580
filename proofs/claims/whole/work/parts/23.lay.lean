/-! Exchanges; lay. -/
def gsw (f : Nat → Nat) (s t : Nat) : Nat → Nat := fun j => if j = s then f t else if j = t then f s else f j
def exG (g : GS) (s t : Nat) : GS := fun k => if k = 40 then gsw (g 40) s t else if k = 41 then gsw (g 41) s t else g k
theorem gsw_gsw (f : Nat → Nat) (s t : Nat) : gsw (gsw f s t) s t = f := by
  funext j
  unfold gsw
  by_cases h1 : j = s
  · subst h1
    rw [if_pos rfl]
    by_cases h2 : t = j
    · rw [if_pos h2, h2]
    · rw [if_neg h2, if_pos rfl]
  · rw [if_neg h1]
    by_cases h2 : j = t
    · subst h2
      rw [if_pos rfl, if_pos rfl]
    · rw [if_neg h2, if_neg h1, if_neg h2]
theorem exG_exG (g : GS) (s t : Nat) : exG (exG g s t) s t = g := by
  funext k
  by_cases h1 : k = 40
  · subst h1
    show gsw (gsw (g 40) s t) s t = g 40
    exact gsw_gsw _ _ _
  · by_cases h2 : k = 41
    · subst h2
      show gsw (gsw (g 41) s t) s t = g 41
      exact gsw_gsw _ _ _
    · simp [exG, h1, h2]
theorem gsw_le {f : Nat → Nat} {s t n : Nat} (hs : s < 8) (ht : t < 8) (h : ∀ j, j < 8 → f j ≤ n) : ∀ j, j < 8 → gsw f s t j ≤ n := by
  intro j hj
  unfold gsw
  split
  · exact h t ht
  · split
    · exact h s hs
    · exact h j hj
theorem Wk.ex {g : GS} (hW : Wk g) {s t : Nat} (hs : s < 8) (ht : t < 8) : Wk (exG g s t) := by
  obtain ⟨h1, h2, h3, h4, h5, h6, h7, h8, h9⟩ := hW
  exact ⟨h1, h2, h3, h4, h5, fun j hj => ⟨gsw_le hs ht (fun j hj => (h6 j hj).1) j hj, gsw_le hs ht (fun j hj => (h6 j hj).2) j hj⟩, h7, h8, h9⟩
theorem Wp.ex {g : GS} (hp : Wp g) (s t : Nat) : Wp (exG g s t) := hp
def scP (g : GS) (s t : Nat) (st : Nat × Nat × Nat) : Nat × Nat × Nat := if tkN (exG g s t) < st.1 then (tkN (exG g s t), s, t) else st
def scT (g : GS) (s : Nat) : Nat → Nat → Nat × Nat × Nat → Nat × Nat × Nat
  | 0, _, st => st
  | n + 1, t, st => scT g s n (t + 1) (scP g s t st)
def scS (g : GS) : Nat → Nat → Nat × Nat × Nat → Nat × Nat × Nat
  | 0, _, st => st
  | n + 1, s, st => scS g n (s + 1) (scT g s (8 - (s + 1)) (s + 1) st)
def scN (g : GS) : Nat × Nat × Nat := scS g 8 0 (tkN g, 8, 8)
def scI (g : GS) (st : Nat × Nat × Nat) : Prop := (st.2.1 = 8 ∧ st.2.2 = 8 ∧ st.1 = tkN g) ∨ (st.2.1 < 8 ∧ st.2.2 < 8 ∧ st.1 = tkN (exG g st.2.1 st.2.2) ∧ st.1 < tkN g)
theorem scI_le {g : GS} {st : Nat × Nat × Nat} (h : scI g st) : st.1 ≤ tkN g := by
  rcases h with h | h <;> omega
theorem scI_P {g : GS} {s t : Nat} {st : Nat × Nat × Nat} (h : scI g st) (hs : s < 8) (ht : t < 8) : scI g (scP g s t st) := by
  have hl := scI_le h
  unfold scP
  split
  · exact Or.inr ⟨hs, ht, rfl, by show tkN (exG g s t) < _; omega⟩
  · exact h
theorem scI_T {g : GS} {s : Nat} (hs : s < 8) : ∀ (n t : Nat) (st : Nat × Nat × Nat), t + n ≤ 8 → scI g st → scI g (scT g s n t st)
  | 0, t, st, _, h => h
  | n + 1, t, st, ht, h => scI_T hs n (t + 1) _ (by omega) (scI_P h hs (by omega))
theorem scI_S {g : GS} : ∀ (n s : Nat) (st : Nat × Nat × Nat), s + n ≤ 8 → scI g st → scI g (scS g n s st)
  | 0, s, st, _, h => h
  | n + 1, s, st, hs, h => scI_S n (s + 1) _ (by omega) (scI_T (by omega) _ _ _ (by omega) h)
theorem scI_N (g : GS) : scI g (scN g) := scI_S 8 0 _ (by omega) (Or.inl ⟨rfl, rfl, rfl⟩)
def laF : Nat → Nat → GS → Nat × GS
  | 0, n, g => (n, g)
  | f + 1, n, g => if (scN g).2.1 < 8 then laF f (n + 1) (exG g (scN g).2.1 (scN g).2.2) else (n, g)
def laN (g : GS) : Nat × GS := laF (tkN g + 1) 0 g
/-! the ticks of a plan are some thousands -/
theorem hGo_t {h : Hd} {x y : Nat} (hb : hB h) (hx : x ≤ 199) (hy : y ≤ 199) : (hGo h x y).2.2.2 ≤ h.2.2.2 + 199 := by
  have := mv_le hb.1 hb.2.1 hx hy
  show h.2.2.2 + _ ≤ _
  omega
theorem plF_t {g : GS} (hW : Wk g) : ∀ (n j : Nat) (h : Hd), j + n ≤ pln g → hB h → (plF g n j h).2.2.2 ≤ h.2.2.2 + n * 219 ∧ hB (plF g n j h)
  | 0, j, h, _, hb => ⟨by rw [plF]; omega, hb⟩
  | n + 1, j, h, hj, hb => by
    have h10 := hW.1
    have hpj := (hW.2.2.2.2.2.2.2.2 j (by omega)).2
    obtain ⟨a1, a2, -⟩ := hW.2.2.1 (plc g j) (by omega)
    have h13 := hW.2.2.2.2.2.2.2.1.2.1
    have hb2 : hB (plS g j h) := hB_add (hB_go hb a1 a2)
    have ht : (plS g j h).2.2.2 ≤ h.2.2.2 + 219 := by
      have := hGo_t hb a1 a2
      show (hGo h _ _).2.2.2 + g 31 13 ≤ _
      omega
    have ih := plF_t hW n (j + 1) (plS g j h) (by omega) hb2
    rw [plF]
    exact ⟨by have := ih.1; omega, ih.2⟩
theorem lkF_t {g : GS} (hW : Wk g) {i e : Nat} (he : e ≤ pln g) {h : Hd} (hb : hB h) : (lkF g i e h).2.2.2 ≤ h.2.2.2 + 399 ∧ hB (lkF g i e h) := by
  have hn := hW.2.1
  have h14 := hW.2.2.2.2.2.2.2.1.2.2.1
  have hc : fnC g i e ≤ 10 := Nat.le_trans (cnt_le _ _ _) (by omega)
  unfold lkF
  split
  · have hm : fnC g i e * g 31 14 ≤ 10 * 20 := Nat.mul_le_mul hc h14
    have := hGo_t (x := 199) (y := 0) hb (by omega) (by omega)
    refine ⟨?_, hB_add (hB_go hb (by omega) (by omega))⟩
    show (hGo h 199 0).2.2.2 + _ ≤ _
    omega
  · exact ⟨by omega, hb⟩
theorem slF_t {g : GS} (hW : Wk g) {i e : Nat} (he : e ≤ pln g) : ∀ (n s : Nat) (h : Hd), s + n ≤ 8 → hB h → (slF g i e n s h).2.2.2 ≤ h.2.2.2 + n * 399 ∧ hB (slF g i e n s h)
  | 0, s, h, _, hb => ⟨by rw [slF]; omega, hb⟩
  | n + 1, s, h, hs, hb => by
    have hn := hW.2.1
    have h12 := hW.2.2.2.2.2.2.2.1.1
    have hc : slC g i e s ≤ 10 := Nat.le_trans (cnt_le _ _ _) (by omega)
    have h1 : (slS g i e s h).2.2.2 ≤ h.2.2.2 + 399 ∧ hB (slS g i e s h) := by
      unfold slS
      split
      · have hm : slC g i e s * g 31 12 ≤ 10 * 20 := Nat.mul_le_mul hc h12
        have := hGo_t (x := 20 * s) (y := 0) hb (by omega) (by omega)
        refine ⟨?_, hB_add (hB_go hb (by omega) (by omega))⟩
        show (hGo h (20 * s) 0).2.2.2 + _ ≤ _
        omega
      · exact ⟨by omega, hb⟩
    have ih := slF_t hW (i := i) he n (s + 1) (slS g i e s h) (by omega) h1.2
    rw [slF]
    exact ⟨by have := ih.1; omega, ih.2⟩
theorem trF_t {g : GS} (hW : Wk g) {i e : Nat} (hie : i < e) (he : e ≤ pln g) {h : Hd} (hb : hB h) : (trF g i e h).2.2.2 ≤ h.2.2.2 + 6000 ∧ hB (trF g i e h) := by
  have hn := hW.2.1
  have h15 := hW.2.2.2.2.2.2.2.1.2.2.2
  have hnz := (hW.2.2.2.1 _ (hW.kd (i := i) (by omega))).2.2.1
  have h1 : (hBear h (nzA g i) (g 31 15)).2.2.2 ≤ h.2.2.2 + 50 := by
    unfold hBear
    split
    · omega
    · show h.2.2.2 + _ ≤ _
      omega
  have h2 := slF_t hW (i := i) he 8 0 (hBear h (nzA g i) (g 31 15)) (by omega) (hB_bear (c := g 31 15) hb hnz)
  have h3 := lkF_t hW (i := i) he h2.2
  have h4 := plF_t hW (e - i) i _ (by omega) h3.2
  unfold trF
  refine ⟨?_, h4.2⟩
  have := h4.1
  have := h3.1
  have := h2.1
  have : (e - i) * 219 ≤ 10 * 219 := Nat.mul_le_mul_right _ (by omega)
  omega
theorem tkF_t {g : GS} (hW : Wk g) : ∀ (n i : Nat) (h : Hd), hB h → (tkF g n i h).2.2.2 ≤ h.2.2.2 + n * 6000
  | 0, i, h, _ => by rw [tkF]; omega
  | n + 1, i, h, hb => by
    rw [tkF]
    split
    · next hi =>
      have he := enT_le g hi
      have h1 := trF_t hW he.1 he.2 hb
      have := tkF_t hW n (enT g i) _ h1.2
      omega
    · omega
theorem tkN_lt {g : GS} (hW : Wk g) : tkN g ≤ 60000 := by
  have hn := hW.2.1
  have := tkF_t hW (pln g) 0 (0, 0, 0, 0) ⟨Nat.zero_le _, Nat.zero_le _, Nat.zero_le _⟩
  have h2 : pln g * 6000 ≤ 10 * 6000 := Nat.mul_le_mul_right _ hn
  unfold tkN
  simp only at this
  omega
section LY
variable {E : Env0} {d : Nat} {M : Mem} {Q : Int32 → Mem → Prop} {g : GS}
theorem upd_sw {f : Nat → Int32} {F : Nat → Int32} {s t j : Nat} (x y : Int32) (hx : x = f t) (hy : y = f s) : upd (upd f s x) t y j = if j = s then (if s = t then f s else f t) else if j = t then f s else f j := by
  unfold upd
  subst hx hy
  by_cases h1 : j = t
  · rw [if_pos h1]
    by_cases h2 : j = s
    · rw [if_pos h2, if_pos (by omega)]
    · rw [if_neg h2, if_pos h1]
  · rw [if_neg h1]
    by_cases h2 : j = s
    · rw [if_pos h2, if_pos h2, if_neg (by omega)]
    · rw [if_neg h2, if_neg h2, if_neg h1]
/-- only slots, and the reckoner's own -/
def sX (M M' : Mem) : Prop := ∀ k, k ≠ 12 → k ≠ 13 → k ≠ 18 → k ≠ 19 → M' k = M k
theorem sX.tr {M M1 M2 : Mem} (h1 : sX M M1) (h2 : sX M1 M2) : sX M M2 := fun k a b c d => (h2 k a b c d).trans (h1 k a b c d)
theorem sX.rf {M : Mem} : sX M M := fun _ _ _ _ _ => rfl
theorem sX.ofK {M M' : Mem} (h : sK M M') : sX M M' := fun k _ _ c d => h k c d
theorem c_S_exchange {s t : Nat} (hD : DC g M) (hs : s < 8) (ht : t < 8) (k : ∀ M', sX M M' → DC (exG g s t) M' → Q 0 M') : CE E (d + 1) n_S_exchange [.inr 11, .inl (nI s), .inl (nI t)] M Q := by
  refine CE_of rfl (b_S_exchange_0 _ _ ⟨vp_in_nI hs (by omega), vp_in_nI hs (by omega), vp_in_nI ht (by omega), vp_in_nI ht (by omega), ?_⟩)
  rw [nI_clamp (by omega), nI_clamp (by omega)]
  refine c_S_fill hs (c_S_fill ht (k _ ?_ ?_))
  · intro k a b _ _
    rw [mset_ne _ _ _ b, mset_ne _ _ _ a, mset_ne _ _ _ b, mset_ne _ _ _ a]
  · obtain ⟨d1, d2, d3, d4, d5⟩ := hD
    have e : ∀ k, k ≠ 12 → k ≠ 13 → mset (mset (mset (mset M 12 s (M 12 t)) 13 s (M 13 t)) 12 t (M 12 s)) 13 t (M 13 s) k = M k := by
      intro k a b
      rw [mset_ne _ _ _ b, mset_ne _ _ _ a, mset_ne _ _ _ b, mset_ne _ _ _ a]
    refine ⟨?_, ?_, ?_, ?_, ?_⟩
    · intro j hj
      rw [e 2 (by omega) (by omega), e 3 (by omega) (by omega), e 4 (by omega) (by omega), e 5 (by omega) (by omega)]
      exact d1 j hj
    · unfold DP
      rw [e 1 (by omega) (by omega), e 6 (by omega) (by omega), e 7 (by omega) (by omega), e 8 (by omega) (by omega), e 9 (by omega) (by omega), e 10 (by omega) (by omega)]
      exact d2
    · intro j hj
      have e12 : mset (mset (mset (mset M 12 s (M 12 t)) 13 s (M 13 t)) 12 t (M 12 s)) 13 t (M 13 s) 12 = upd (upd (M 12) s (M 12 t)) t (M 12 s) := by
        rw [mset_ne _ _ _ (by omega), mset_eq, mset_ne _ _ _ (by omega), mset_eq]
      have e13 : mset (mset (mset (mset M 12 s (M 12 t)) 13 s (M 13 t)) 12 t (M 12 s)) 13 t (M 13 s) 13 = upd (upd (M 13) s (M 13 t)) t (M 13 s) := by
        rw [mset_eq, mset_ne _ _ _ (by omega), mset_eq, mset_ne _ _ _ (by omega)]
      rw [e12, e13, upd_sw (F := M 12) _ _ rfl rfl, upd_sw (F := M 13) _ _ rfl rfl]
      show _ = nI (gsw (g 40) s t j) - 1 ∧ _ = nI (gsw (g 41) s t j)
      unfold gsw
      by_cases h1 : j = s
      · rw [if_pos h1, if_pos h1, if_pos h1, if_pos h1]
        by_cases h2 : s = t
        · subst h2
          rw [if_pos rfl, if_pos rfl]
          exact d3 s hs
        · rw [if_neg h2, if_neg h2]
          exact d3 t ht
      · rw [if_neg h1, if_neg h1, if_neg h1, if_neg h1]
        by_cases h2 : j = t
        · rw [if_pos h2, if_pos h2, if_pos h2, if_pos h2]
          exact d3 s hs
        · rw [if_neg h2, if_neg h2, if_neg h2, if_neg h2]
          exact d3 j hj
    · unfold DG
      rw [e 14 (by omega) (by omega)]
      exact d4
    · unfold DR
      rw [e 15 (by omega) (by omega), e 16 (by omega) (by omega)]
      exact d5
theorem c_K_makeBestExchange (hD : DC g M) (hW : Wk g) (hp : Wp g) (k1 : (scN g).2.1 < 8 → ∀ M', sX M M' → DC (exG g (scN g).2.1 (scN g).2.2) M' → Q 1 M') (k0 : ¬ (scN g).2.1 < 8 → ∀ M', sX M M' → DC g M' → Q 0 M') : CE E (d + 4) n_K_makeBestExchange [.inr 17] M Q := by
  have L : ∀ (n s : Nat) (st : Nat × Nat × Nat) (M1 : Mem) (o5 o6 : Option V), s + n = 8 → sX M M1 → DC g M1 → scI g st → scS g n s st = scN g → JE E (d + 4) n_K_makeBestExchange 12 [some (.inr 17), some (.inl (nI st.1)), some (.inl (e8 st.2.1)), some (.inl (e8 st.2.2)), some (.inl (nI s)), o5, o6] [] M1 Q := by
    intro n
    induction n with
    | zero =>
      intro s st M1 o5 o6 hs s1 hD1 hi hfin
      rw [scS] at hfin
      refine b_K_makeBestExchange_12 _ _ _ _ _ _ ⟨fun _ => ⟨fun c2 => ?_, fun c2 => ⟨z01_0, ?_⟩⟩, fun c1 => absurd (nI_le (a := 8) (by omega) (by omega)) c1⟩
      · have h8 : st.2.1 < 8 ∧ st.2.2 < 8 := by
          rcases hi with h | h
          · rw [h.1] at c2
            exact absurd rfl c2
          · exact ⟨h.1, h.2.1⟩
        rw [show e8 st.2.1 = nI st.2.1 from if_pos h8.1, show e8 st.2.2 = nI st.2.2 from if_pos h8.2]
        refine c_S_exchange hD1 h8.1 h8.2 (fun M2 s2 hD2 => ⟨z01_1, ?_⟩)
        rw [hfin] at hD2 h8
        exact k1 h8.1 M2 (s1.tr s2) hD2
      · have h8 : ¬ st.2.1 < 8 := by
          rcases hi with h | h
          · omega
          · rw [show e8 st.2.1 = nI st.2.1 from if_pos h.1] at c2
            exact absurd c2 (nI_neg1 _ (by omega))
        rw [hfin] at h8
        exact k0 h8 M1 s1 hD1
    | succ n ih =>
      intro s st M1 o5 o6 hs s1 hD1 hi hfin
      rw [scS] at hfin
      refine b_K_makeBestExchange_12 _ _ _ _ _ _ ⟨fun c1 => absurd c1 (nI_ge (b := 8) (by omega) (by omega)), fun _ => ?_⟩
      rw [nI_1]
      have T : ∀ (n2 t : Nat) (st : Nat × Nat × Nat) (M1 : Mem) (o6 : Option V), t + n2 = 8 → s < t → sX M M1 → DC g M1 → scI g st → scS g n (s + 1) (scT g s n2 t st) = scN g → JE E (d + 4) n_K_makeBestExchange 25 [some (.inr 17), some (.inl (nI st.1)), some (.inl (e8 st.2.1)), some (.inl (e8 st.2.2)), some (.inl (nI s)), some (.inl (nI t)), o6] [] M1 Q := by
        intro n2
        induction n2 with
        | zero =>
          intro t st M1 o6 ht hst s1 hD1 hi hfin
          rw [scT] at hfin
          refine b_K_makeBestExchange_25 _ _ _ _ _ _ ⟨fun _ => ?_, fun c1 => absurd (nI_le (a := 8) (by omega) (by omega)) c1⟩
          rw [nI_1]
          exact ih (s + 1) st M1 _ _ (by omega) s1 hD1 hi hfin
        | succ n2 ih2 =>
          intro t st M1 o6 ht hst s1 hD1 hi hfin
          rw [scT] at hfin
          have hWe := hW.ex (s := s) (t := t) (by omega) (by omega)
          refine b_K_makeBestExchange_25 _ _ _ _ _ _ ⟨fun c1 => absurd c1 (nI_ge (b := 8) (by omega) (by omega)), fun _ => c_S_exchange hD1 (by omega) (by omega) (fun M2 s2 hD2 => c_K_reckon hD2 hWe (hp.ex s t) (fun M3 s3 => c_S_exchange (hD2.sK s3) (by omega) (by omega) (fun M4 s4 hD4 => ?_)))⟩
          rw [exG_exG] at hD4
          have sAll : sX M M4 := ((s1.tr s2).tr (sX.ofK s3)).tr s4
          have hb1 := tkN_lt hW
          have hb2 := tkN_lt hWe
          have hb3 := scI_le hi
          have hi2 := scI_P (s := s) (t := t) hi (by omega) (by omega)
          rw [nI_1]
          refine ⟨fun c2 => ?_, fun c2 => ?_⟩
          · rw [nI_leI (by omega) (by omega)] at c2
            have e1 : scP g s t st = st := by unfold scP; rw [if_neg (by omega)]
            rw [e1] at hfin
            exact ih2 (t + 1) st M4 _ (by omega) (by omega) sAll hD4 hi hfin
          · rw [nI_leI (by omega) (by omega)] at c2
            have e1 : scP g s t st = (tkN (exG g s t), s, t) := by unfold scP; rw [if_pos (by omega)]
            rw [e1] at hfin hi2
            have := ih2 (t + 1) _ M4 (some (.inl (nI (tkN (exG g s t))))) (by omega) (by omega) sAll hD4 hi2 hfin
            rw [show e8 (tkN (exG g s t), s, t).2.1 = nI s from if_pos (by show s < 8; omega), show e8 (tkN (exG g s t), s, t).2.2 = nI t from if_pos (by show t < 8; omega)] at this
            exact this
      exact T (8 - (s + 1)) (s + 1) st M1 _ (by omega) (by omega) s1 hD1 hi hfin
  refine CE_of rfl (b_K_makeBestExchange_0 (c_K_reckon hD hW hp (fun M1 s1 => ?_)))
  exact L 8 0 (tkN g, 8, 8) M1 _ _ (by omega) (sX.ofK s1) (hD.sK s1) (Or.inl ⟨rfl, rfl, rfl⟩) rfl
end LY
