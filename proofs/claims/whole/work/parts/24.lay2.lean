/-! lay, on both sides. -/
theorem laF_wf : ∀ (f n : Nat) (g : GS), Wk g → Wp g → Wk (laF f n g).2 ∧ Wp (laF f n g).2
  | 0, n, g, hW, hp => ⟨hW, hp⟩
  | f + 1, n, g, hW, hp => by
    rw [laF]
    split
    · next h =>
      have h2 : (scN g).2.2 < 8 := by rcases scI_N g with q | q <;> omega
      exact laF_wf f (n + 1) _ (hW.ex h h2) (hp.ex _ _)
    · exact ⟨hW, hp⟩
theorem scN_dec {g : GS} (h : (scN g).2.1 < 8) : (scN g).2.2 < 8 ∧ tkN (exG g (scN g).2.1 (scN g).2.2) < tkN g := by
  rcases scI_N g with q | q
  · omega
  · exact ⟨q.2.1, by omega⟩
section LZ
variable {E : Env0} {d : Nat} {M : Mem} {Q : Int32 → Mem → Prop} {g : GS}
theorem c_D_lay (hD : DC g M) (hW : Wk g) (hp : Wp g) (k0 : gdB g = false → Q (-1) M) (k1 : gdB g = true → ∀ M', (∀ k, k ≠ 12 → k ≠ 13 → k ≠ 18 → k ≠ 19 → k ≠ 26 → M' k = M k) → M' 26 = upd (M 26) 7 0 → DC (laN g).2 M' → Q (nI (laN g).1) M') : CE E (d + 5) n_D_lay [.inr 0] M Q := by
  refine CE_of rfl (b_D_lay_0 (c_K_isGood hD hW hp ⟨fun c1 => ⟨z01_0, ?_⟩, fun c1 => k0 (b2_z.mp c1)⟩))
  rw [b2_nz] at c1
  have k1 := k1 c1
  have key : ∀ (f n : Nat) (g1 : GS) (M1 : Mem), tkN g1 < f → n + tkN g1 ≤ 60000 → Wk g1 → Wp g1 → DC g1 M1 → (∀ k, k ≠ 12 → k ≠ 13 → k ≠ 18 → k ≠ 19 → k ≠ 26 → M1 k = M k) → M1 26 = upd (M 26) 7 0 → laF f n g1 = laN g → JE E (d + 5) n_D_lay 22 [some (.inr 0), some (.inl (nI n))] [] M1 Q := by
    intro f
    induction f with
    | zero => intro n g1 M1 h1; omega
    | succ f ih =>
      intro n g1 M1 h1 h2 hW1 hp1 hD1 s1 e26 hfin
      rw [laF] at hfin
      refine b_D_lay_22 _ ⟨fun c2 => absurd c2 (nI_ge (b := 1000000) (by omega) (by omega)), fun _ => c_K_makeBestExchange hD1 hW1 hp1 (fun c3 M2 s2 hD2 => ⟨fun z => absurd z (by decide), fun _ => ?_⟩) (fun c3 M2 s2 hD2 => ⟨fun _ => ?_, fun z => absurd rfl z⟩)⟩
      · obtain ⟨q1, q2⟩ := scN_dec c3
        rw [if_pos c3] at hfin
        rw [nI_1]
        exact ih (n + 1) _ M2 (by omega) (by omega) (hW1.ex c3 q1) (hp1.ex _ _) hD2 (fun k a b c d e => (s2 k a b c d).trans (s1 k a b c d e)) ((s2 26 (by omega) (by omega) (by omega) (by omega)).trans e26) hfin
      · rw [if_neg c3] at hfin
        have e1 : (laN g).1 = n := by rw [← hfin]
        have e2 : (laN g).2 = g1 := by rw [← hfin]
        rw [e1] at k1
        exact k1 M2 (fun k a b c d e => (s2 k a b c d).trans (s1 k a b c d e)) ((s2 26 (by omega) (by omega) (by omega) (by omega)).trans e26) (by rw [e2]; exact hD2)
  exact key (tkN g + 1) 0 g _ (by omega) (by have := tkN_lt hW; omega) hW hp (hD.sO (c := 26) (by omega) (sO.set 26 7 0)) (fun k _ _ _ _ e => mset_ne M 7 0 e) (mset_eq M 26 7 0) rfl
theorem c_M_exchanges {s t : Nat} (hR : RC g M) (hs : s < 8) (ht : t < 8) (k : ∀ M', (∀ k, k ≠ 40 → k ≠ 41 → M' k = M k) → RC (exG g s t) M' → Q 0 M') : CE E d n_M_exchanges [.inr 31, .inl (nI s), .inl (nI t)] M Q := by
  have v1 : vp_in (nI s) 8 := vp_in_nI hs (by omega)
  have v2 : vp_in (nI t) 8 := vp_in_nI ht (by omega)
  refine CE_of rfl (b_M_exchanges_0 _ _ ⟨v1, v2, v1, v2, v1, v2, v1, v2, ?_⟩)
  rw [nI_clamp (by omega), nI_clamp (by omega)]
  have e : ∀ k, k ≠ 40 → k ≠ 41 → mset (mset (mset (mset M 40 s (M 40 t)) 40 t (M 40 s)) 41 s (M 41 t)) 41 t (M 41 s) k = M k := by
    intro k a b
    rw [mset_ne _ _ _ b, mset_ne _ _ _ b, mset_ne _ _ _ a, mset_ne _ _ _ a]
  have e40 : mset (mset (mset (mset M 40 s (M 40 t)) 40 t (M 40 s)) 41 s (M 41 t)) 41 t (M 41 s) 40 = upd (upd (M 40) s (M 40 t)) t (M 40 s) := by
    rw [mset_ne _ _ _ (by omega), mset_ne _ _ _ (by omega), mset_eq, mset_eq]
  have e41 : mset (mset (mset (mset M 40 s (M 40 t)) 40 t (M 40 s)) 41 s (M 41 t)) 41 t (M 41 s) 41 = upd (upd (M 41) s (M 41 t)) t (M 41 s) := by
    rw [mset_eq, mset_eq, mset_ne _ _ _ (by omega), mset_ne _ _ _ (by omega)]
  refine k _ e ⟨fun k h1 h2 h3 j => ?_, fun j => ?_, ?_, fun j h1 h2 => ?_⟩
  · by_cases h41 : k = 41
    · subst h41
      rw [e41, upd_sw (F := M 41) _ _ rfl rfl]
      show _ = nI (gsw (g 41) s t j)
      unfold gsw
      have m41 := hR.at 41 (by omega) (by omega) (by omega)
      simp only [m41]
      by_cases h1 : j = s
      · rw [if_pos h1, if_pos h1]
        by_cases h2 : s = t
        · rw [if_pos h2, h2]
        · rw [if_neg h2]
      · rw [if_neg h1, if_neg h1]
        by_cases h2 : j = t
        · rw [if_pos h2, if_pos h2]
        · rw [if_neg h2, if_neg h2]
    · rw [e k h3 h41]
      have : exG g s t k = g k := by unfold exG; rw [if_neg h3, if_neg h41]
      rw [this]
      exact hR.1 k h1 h2 h3 j
  · rw [e40, upd_sw (F := M 40) _ _ rfl rfl]
    show _ = nI (gsw (g 40) s t j) - 1
    unfold gsw
    have m40 := hR.2.1
    simp only [m40]
    by_cases h1 : j = s
    · rw [if_pos h1, if_pos h1]
      by_cases h2 : s = t
      · rw [if_pos h2, h2]
      · rw [if_neg h2]
    · rw [if_neg h1, if_neg h1]
      by_cases h2 : j = t
      · rw [if_pos h2, if_pos h2]
      · rw [if_neg h2, if_neg h2]
  · rw [e 31 (by omega) (by omega)]
    exact hR.2.2.1
  · rw [e 31 (by omega) (by omega)]
    exact hR.2.2.2 j h1 h2
/-- the reference: only slots, its head, what it knows -/
def sY (M M' : Mem) : Prop := (∀ k, k ≠ 31 → k ≠ 40 → k ≠ 41 → M' k = M k) ∧ ∀ j, j < 21 ∨ 24 < j → j ≠ 28 → M' 31 j = M 31 j
theorem sY.tr {M M1 M2 : Mem} (h1 : sY M M1) (h2 : sY M1 M2) : sY M M2 := ⟨fun k a b c => (h2.1 k a b c).trans (h1.1 k a b c), fun j a b => (h2.2 j a b).trans (h1.2 j a b)⟩
theorem sY.ofT {M M' : Mem} (h : sT M M') : sY M M' := ⟨fun k a _ _ => h.1 k a, fun j a _ => h.2 j a⟩
theorem sY.ofE {M M' : Mem} (h : ∀ k, k ≠ 40 → k ≠ 41 → M' k = M k) : sY M M' := ⟨fun k _ b c => h k b c, fun j _ _ => by rw [h 31 (by omega) (by omega)]⟩
theorem sY.rf {M : Mem} : sY M M := ⟨fun _ _ _ _ => rfl, fun _ _ _ => rfl⟩
theorem RC.set31 (hR : RC g M) (j : Nat) (x : Int32) (h1 : j ≠ 4) (h2 : j < 11 ∨ 16 < j) : RC g (mset M 31 j x) := by
  refine ⟨fun k a b c i => ?_, fun i => ?_, ?_, fun i a b => ?_⟩
  · rw [mset_ne _ _ _ (by omega)]; exact hR.1 k a b c i
  · rw [mset_ne _ _ _ (by omega)]; exact hR.2.1 i
  · rw [mset_eq]; unfold upd; rw [if_neg (by omega)]; exact hR.2.2.1
  · rw [mset_eq]; unfold upd; rw [if_neg (by omega)]; exact hR.2.2.2 i a b
theorem c_M_lay (hR : RC g M) (hW : Wk g) (hp : Wp g) (k0 : gdB g = false → Q (-1) M) (k1 : gdB g = true → ∀ M', sY M M' → M' 31 28 = (if (laN g).1 = 0 then M 31 28 else 0) → RC (laN g).2 M' → Q (nI (laN g).1) (mset M' 31 30 0)) : CE E (d + 4) n_M_lay [.inr 31] M Q := by
  refine CE_of rfl (b_M_lay_0 (c_M_isGood hR hW ⟨fun c1 => ?_, fun c1 => k0 (b2_z.mp c1)⟩))
  rw [b2_nz] at c1
  have k1 := k1 c1
  have key : ∀ (f n : Nat) (g1 : GS) (M1 : Mem) (o3 o4 o5 o6 o7 o8 : Option V), tkN g1 < f → Wk g1 → Wp g1 → RC g1 M1 → sY M M1 → M1 31 28 = (if n = 0 then M 31 28 else 0) → laF f n g1 = laN g → JE E (d + 4) n_M_lay 13 [some (.inr 31), some (.inl (nI n)), some (.inl 1), o3, o4, o5, o6, o7, o8] [] M1 Q := by
    intro f
    induction f with
    | zero => intro n g1 M1 o3 o4 o5 o6 o7 o8 h1; omega
    | succ f ih =>
      intro n g1 M1 o3 o4 o5 o6 o7 o8 h1 hW1 hp1 hR1 s1 e28 hfin
      rw [laF] at hfin
      have L : ∀ (m s : Nat) (st : Nat × Nat × Nat) (M2 : Mem) (o2 o7 o8 : Option V), s + m = 8 → sY M M2 → M2 31 28 = M1 31 28 → RC g1 M2 → scI g1 st → scS g1 m s st = scN g1 → JE E (d + 4) n_M_lay 31 [some (.inr 31), some (.inl (nI n)), o2, some (.inl (nI st.1)), some (.inl (e8 st.2.1)), some (.inl (e8 st.2.2)), some (.inl (nI s)), o7, o8] [] M2 Q := by
        intro m
        induction m with
        | zero =>
          intro s st M2 o2 o7 o8 hs s2 e2 hR2 hi hsc
          rw [scS] at hsc
          refine b_M_lay_31 _ _ _ _ _ _ _ _ ⟨fun _ => ⟨fun c2 => ⟨fun _ => ?_, fun z => absurd rfl z⟩, fun c2 => ⟨fun z => absurd z (by decide), fun _ => ?_⟩⟩, fun c1 => absurd (nI_le (a := 8) (by omega) (by omega)) c1⟩
          · have h8 : ¬ st.2.1 < 8 := by
              rcases hi with h | h
              · omega
              · rw [show e8 st.2.1 = nI st.2.1 from if_pos h.1] at c2
                exact absurd c2 (nI_neg1 _ (by omega))
            rw [hsc] at h8
            rw [if_neg h8] at hfin
            have f1 : (laN g).1 = n := by rw [← hfin]
            have f2 : (laN g).2 = g1 := by rw [← hfin]
            rw [f1] at k1
            refine b_M_lay_13 _ _ _ _ _ _ _ _ ⟨fun _ => ⟨z01_0, k1 M2 s2 (e2.trans e28) (by rw [f2]; exact hR2)⟩, fun z => absurd rfl z⟩
          · have h8 : st.2.1 < 8 ∧ st.2.2 < 8 := by
              rcases hi with h | h
              · rw [h.1] at c2
                exact absurd rfl c2
              · exact ⟨h.1, h.2.1⟩
            rw [show e8 st.2.1 = nI st.2.1 from if_pos h8.1, show e8 st.2.2 = nI st.2.2 from if_pos h8.2]
            refine c_M_exchanges hR2 h8.1 h8.2 (fun M3 s3 hR3 => ⟨z01_0, ?_⟩)
            rw [hsc] at hR3 h8
            rw [if_pos h8.1] at hfin
            obtain ⟨q1, q2⟩ := scN_dec h8.1
            rw [nI_1]
            refine ih (n + 1) _ _ _ _ _ _ _ _ (by omega) (hW1.ex h8.1 q1) (hp1.ex _ _) (hR3.set31 28 0 (by omega) (by omega)) ?_ ?_ hfin
            · refine (s2.tr (sY.ofE s3)).tr ⟨fun k a _ _ => mset_ne _ _ _ a, fun j _ b => ?_⟩
              rw [mset_eq]
              unfold upd
              rw [if_neg b]
            · rw [mset_eq, if_neg (by omega)]
              unfold upd
              rw [if_pos rfl]
        | succ m ihm =>
          intro s st M2 o2 o7 o8 hs s2 e2 hR2 hi hsc
          rw [scS] at hsc
          refine b_M_lay_31 _ _ _ _ _ _ _ _ ⟨fun c1 => absurd c1 (nI_ge (b := 8) (by omega) (by omega)), fun _ => ?_⟩
          rw [nI_1]
          have T : ∀ (n2 t : Nat) (st : Nat × Nat × Nat) (M2 : Mem) (o8 : Option V), t + n2 = 8 → s < t → sY M M2 → M2 31 28 = M1 31 28 → RC g1 M2 → scI g1 st → scS g1 m (s + 1) (scT g1 s n2 t st) = scN g1 → JE E (d + 4) n_M_lay 44 [some (.inr 31), some (.inl (nI n)), o2, some (.inl (nI st.1)), some (.inl (e8 st.2.1)), some (.inl (e8 st.2.2)), some (.inl (nI s)), some (.inl (nI t)), o8] [] M2 Q := by
            intro n2
            induction n2 with
            | zero =>
              intro t st M2 o8 ht hst s2 e2 hR2 hi hsc
              rw [scT] at hsc
              refine b_M_lay_44 _ _ _ _ _ _ _ _ ⟨fun _ => ?_, fun c1 => absurd (nI_le (a := 8) (by omega) (by omega)) c1⟩
              rw [nI_1]
              exact ihm (s + 1) st M2 _ _ _ (by omega) s2 e2 hR2 hi hsc
            | succ n2 ih2 =>
              intro t st M2 o8 ht hst s2 e2 hR2 hi hsc
              rw [scT] at hsc
              have hWe := hW1.ex (s := s) (t := t) (by omega) (by omega)
              refine b_M_lay_44 _ _ _ _ _ _ _ _ ⟨fun c1 => absurd c1 (nI_ge (b := 8) (by omega) (by omega)), fun _ => c_M_exchanges hR2 (by omega) (by omega) (fun M3 s3 hR3 => c_M_planTicks hR3 hWe (fun M4 s4 => c_M_exchanges (hR3.sT s4) (by omega) (by omega) (fun M5 s5 hR5 => ?_)))⟩
              rw [exG_exG] at hR5
              have sAll : sY M M5 := ((s2.tr (sY.ofE s3)).tr (sY.ofT s4)).tr (sY.ofE s5)
              have e5 : M5 31 28 = M1 31 28 := by
                rw [s5 31 (by omega) (by omega), s4.2 28 (by omega), s3 31 (by omega) (by omega)]
                exact e2
              have hb1 := tkN_lt hW1
              have hb2 := tkN_lt hWe
              have hb3 := scI_le hi
              have hi2 := scI_P (s := s) (t := t) hi (by omega) (by omega)
              rw [nI_1]
              refine ⟨fun c2 => ?_, fun c2 => ?_⟩
              · rw [nI_ltI (by omega) (by omega)] at c2
                have e1 : scP g1 s t st = (tkN (exG g1 s t), s, t) := by unfold scP; rw [if_pos (by omega)]
                rw [e1] at hsc hi2
                have := ih2 (t + 1) _ M5 (some (.inl (nI (tkN (exG g1 s t))))) (by omega) (by omega) sAll e5 hR5 hi2 hsc
                rw [show e8 (tkN (exG g1 s t), s, t).2.1 = nI s from if_pos (by show s < 8; omega), show e8 (tkN (exG g1 s t), s, t).2.2 = nI t from if_pos (by show t < 8; omega)] at this
                exact this
              · rw [nI_ltI (by omega) (by omega)] at c2
                have e1 : scP g1 s t st = st := by unfold scP; rw [if_neg (by omega)]
                rw [e1] at hsc
                exact ih2 (t + 1) st M5 _ (by omega) (by omega) sAll e5 hR5 hi hsc
          exact T (8 - (s + 1)) (s + 1) st M2 _ (by omega) (by omega) s2 e2 hR2 hi hsc
      refine b_M_lay_13 _ _ _ _ _ _ _ _ ⟨fun z => absurd z (by decide), fun _ => c_M_planTicks hR1 hW1 (fun M2 s2 => ?_)⟩
      exact L 8 0 (tkN g1, 8, 8) M2 _ _ _ (by omega) (s1.tr (sY.ofT s2)) (s2.2 28 (by omega)) (hR1.sT s2) (Or.inl ⟨rfl, rfl, rfl⟩) rfl
  exact key (tkN g + 1) 0 g M _ _ _ _ _ _ (by omega) hW hp hR sY.rf (by rw [if_pos rfl]) rfl
end LZ
