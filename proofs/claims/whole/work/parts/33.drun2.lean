/-! The desk: the steps of a tour. -/
theorem us_last {g : GS} {st gv : Nat → Nat} {i j s : Nat} (h : i ≤ j) : usN g st gv i (j + 1) s = usN g st gv i j s + (if (st (plc g j) == 0 && gv (plc g j) == s) = true then 1 else 0) := by
  unfold usN
  rw [show j + 1 - i = (j - i) + 1 by omega, cnt_last, show i + (j - i) = j by omega]
section DV
variable {E : Env0} {d : Nat} {M : Mem} {Q : Int32 → Mem → Prop} {g : GS} {rs : RS}
def sP (M M' : Mem) : Prop := ∀ k, k ≠ 29 → k ≠ 30 → M' k = M k
theorem DT.sP (h : DT g rs M) {M' : Mem} (s : sP M M') : DT g rs M' := h.fr ⟨fun k a b => s k (by omega) (by omega), s 27 (by omega) (by omega), fun j _ => by rw [s 26 (by omega) (by omega)]⟩
theorem c_T_giveSlots {i e : Nat} (hD : DT g rs M) (hW : Wk g) (hp : Wp g) (hb : rsB rs) (he : e ≤ pln g) (hie : i ≤ e) (h1 : ∀ j, i ≤ j → j < e → rs.1 (plc g j) ≠ 1)
    (k0 : (giF g rs.1 rs.2.1 i (e - i) i (fun _ => 0)).1 ≠ 0 → ∀ M', sP M M' → Q 0 (mset M' 26 13 (nI ((giF g rs.1 rs.2.1 i (e - i) i (fun _ => 0)).1 - 1))))
    (k1 : (giF g rs.1 rs.2.1 i (e - i) i (fun _ => 0)).1 = 0 → ∀ M', sP M M' → (∀ s, s < 8 → M' 30 s = nI (usN g rs.1 (giF g rs.1 rs.2.1 i (e - i) i (fun _ => 0)).2 i e s)) → (∀ j, i ≤ j → j < e → rs.1 (plc g j) = 0 → (giF g rs.1 rs.2.1 i (e - i) i (fun _ => 0)).2 (plc g j) < 8 ∧ M' 29 (plc g j) = nI ((giF g rs.1 rs.2.1 i (e - i) i (fun _ => 0)).2 (plc g j))) → Q 1 M') : CE E (d + 2) n_T_giveSlots [.inr 26, .inl (nI i), .inl (nI e)] M Q := by
  have hn := hW.2.1
  have hp10 := hW.1
  generalize hG : giF g rs.1 rs.2.1 i (e - i) i (fun _ => 0) = G at k0 k1
  have key : ∀ (n j : Nat) (gv : Nat → Nat) (M1 : Mem) (o1 o4 o5 : Option V), j + n = e → i ≤ j → sP M M1 → (∀ s, s < 8 → M1 30 s = nI (usN g rs.1 gv i j s)) → (∀ j', i ≤ j' → j' < j → rs.1 (plc g j') = 0 → gv (plc g j') < 8 ∧ M1 29 (plc g j') = nI (gv (plc g j'))) → giF g rs.1 rs.2.1 i n j gv = G → JE E (d + 2) n_T_giveSlots 10 [some (.inr 26), o1, some (.inl (nI e)), some (.inl (nI j)), o4, o5] [] M1 Q := by
    intro n
    induction n with
    | zero =>
      intro j gv M1 o1 o4 o5 hj hij s1 h30 h29 hfin
      rw [giF] at hfin
      subst hfin
      have hje : j = e := by omega
      subst hje
      exact b_T_giveSlots_10 _ _ _ _ _ ⟨fun _ => ⟨z01_1, k1 rfl M1 s1 h30 h29⟩, fun c1 => absurd (nI_le (by omega) (by omega)) c1⟩
    | succ n ih =>
      intro j gv M1 o1 o4 o5 hj hij s1 h30 h29 hfin
      have hD1 := hD.sP s1
      have hpj := hW.2.2.2.2.2.2.2.2 j (by omega)
      have hs := hb.1 (plc g j)
      have hs1 := h1 j hij (by omega)
      have hk8 : kdA g j < 8 := hW.kd (i := j) (by omega)
      have v2 : vp_in (nI (plc g j)) 10 := vp_in_nI (by omega) (by omega)
      have hne : ∀ j', i ≤ j' → j' < j → plc g j' ≠ plc g j := fun j' _ h2 => hp.1 j' j h2 (by omega)
      rw [giF] at hfin
      refine b_T_giveSlots_10 _ _ _ _ _ ⟨fun c1 => absurd c1 (nI_ge (by omega) (by omega)), fun _ => ?_⟩
      refine t_placeAt hD1 hW hb (by omega) (c_T_isMissing hD1 (by omega) ⟨fun c2 => ⟨v2, ?_⟩, fun c2 => ?_⟩)
      · rw [b2_z] at c2
        have c2 : ¬ rs.1 (plc g j) = 2 := by simpa using c2
        have h0 : rs.1 (plc g j) = 0 := by omega
        rw [if_pos h0] at hfin
        have e8' : M1 8 (Int32.toNatClampNeg (nI (plc g j))) = nI (kdA g j) := by
          rw [nI_clamp (by omega)]
          exact (hD1.1.2.1.2.1 (plc g j) hpj.2).2.2.1
        rw [e8']
        have hsw : swP g rs.2.1 (usN g rs.1 gv i j) (kdA g j) ≤ 8 := (fst_le _ 8 0).2
        refine c_T_slotWithPart (u := usN g rs.1 gv i j) hD1 hW hb hk8 (fun s hs => ⟨h30 s hs, Nat.le_trans (cnt_le _ _ _) (by omega)⟩) ⟨fun c3 => ?_, fun c3 => ⟨z01_0, ?_⟩⟩
        · rw [e8_none hsw] at c3
          have hlt : swP g rs.2.1 (usN g rs.1 gv i j) (kdA g j) < 8 := by omega
          rw [if_pos hlt] at hfin
          have ee : e8 (swP g rs.2.1 (usN g rs.1 gv i j) (kdA g j)) = nI (swP g rs.2.1 (usN g rs.1 gv i j) (kdA g j)) := if_pos hlt
          rw [ee]
          generalize hv : swP g rs.2.1 (usN g rs.1 gv i j) (kdA g j) = v at hlt hfin
          have v3 : vp_in (nI v) 8 := vp_in_nI hlt (by omega)
          rw [nI_clamp (by omega), nI_clamp (by omega), nI_1, h30 v hlt, nI_1]
          refine ⟨v2, v3, v3, ?_⟩
          refine ih (j + 1) (fs gv (plc g j) v) _ _ _ _ (by omega) (by omega) (fun k a b => ?_) (fun s hs8 => ?_) (fun j' a b c => ?_) hfin
          · rw [mset_ne _ _ _ b, mset_ne _ _ _ a]
            exact s1 k a b
          · rw [us_last hij, giF_fs_us hne, fs_eq, h0, mset_eq, mset_ne _ _ _ (by omega)]
            unfold upd
            by_cases hsv : s = v
            · rw [if_pos hsv, if_pos (by simp [hsv]), hsv]
            · rw [if_neg hsv, if_neg (by simp; omega), h30 s hs8, Nat.add_zero]
          · rw [mset_ne _ _ _ (by omega), mset_eq]
            by_cases hjj : j' = j
            · subst hjj
              rw [fs_eq]
              exact ⟨hlt, if_pos rfl⟩
            · have hn2 := hne j' a (by omega)
              rw [fs_ne _ _ hn2]
              unfold upd
              rw [if_neg hn2]
              exact h29 j' a (by omega) c
        · rw [e8_none hsw] at c3
          rw [if_neg (by omega)] at hfin
          subst hfin
          exact k0 (by show plc g j + 1 ≠ 0; omega) M1 s1
      · rw [b2_nz, beq_iff_eq] at c2
        rw [if_neg (by omega)] at hfin
        rw [nI_1]
        refine ih (j + 1) gv M1 _ _ _ (by omega) (by omega) s1 (fun s hs8 => ?_) (fun j' a b c => ?_) hfin
        · rw [us_last hij, if_neg (by simp; omega)]
          exact h30 s hs8
        · by_cases hjj : j' = j
          · subst hjj
            omega
          · exact h29 j' a (by omega) c
  refine CE_of rfl (b_T_giveSlots_0 _ _ (c_JA_fill_30 (fun M1 s1 h30 => ?_)))
  refine key (e - i) i (fun _ => 0) M1 _ _ _ (by omega) (by omega) (fun k _ b => s1 k b) (fun s hs => ?_) (fun j' a b => by omega) hG
  rw [h30 s hs]
  unfold usN
  rw [Nat.sub_self]
  rfl
theorem DT.take {st pa : Nat → Nat} {h h' : Hd} {tk ms s v : Nat} (hD : DT g (st, pa, h, tk, ms) M) {M' : Mem} (e : sO 27 (mset (mset M 13 s (nI v)) 26 10 (M 26 10 + 1)) M') (H : HD 27 h' M') : DT g (st, fs pa s v, h', tk + 1, ms) M' := by
  obtain ⟨⟨hK, hP, hS, hG, hR⟩, h2, h3, -, h4, h5⟩ := hD
  have ne : ∀ k, k ≠ 27 → k ≠ 26 → k ≠ 13 → M' k = M k := fun k a b c => by rw [e k a, mset_ne _ _ _ b, mset_ne _ _ _ c]
  have e13 : M' 13 = upd (M 13) s (nI v) := by rw [e 13 (by omega), mset_ne _ _ _ (by omega), mset_eq]
  have e26 : M' 26 = upd (M 26) 10 (M 26 10 + 1) := by rw [e 26 (by omega), mset_eq, mset_ne _ _ _ (by omega)]
  have n26 : ∀ j, j ≠ 10 → M' 26 j = M 26 j := fun j hj => by rw [e26]; exact if_neg hj
  refine ⟨⟨?_, ?_, ?_, ?_, ?_⟩, ?_, ?_, H, ?_, ?_⟩
  · unfold DK at *
    simp only [ne 2 (by omega) (by omega) (by omega), ne 3 (by omega) (by omega) (by omega), ne 4 (by omega) (by omega) (by omega), ne 5 (by omega) (by omega) (by omega)]
    exact hK
  · unfold DP at *
    simp only [ne 1 (by omega) (by omega) (by omega), ne 6 (by omega) (by omega) (by omega), ne 7 (by omega) (by omega) (by omega), ne 8 (by omega) (by omega) (by omega), ne 9 (by omega) (by omega) (by omega), ne 10 (by omega) (by omega) (by omega)]
    exact hP
  · intro t ht
    refine ⟨by rw [ne 12 (by omega) (by omega) (by omega)]; exact (hS t ht).1, ?_⟩
    rw [e13]
    show upd (M 13) s (nI v) t = nI (fs pa s v t)
    unfold upd fs
    split
    · rfl
    · exact (hS t ht).2
  · unfold DG at *
    simp only [ne 14 (by omega) (by omega) (by omega)]
    exact hG
  · unfold DR at *
    simp only [ne 15 (by omega) (by omega) (by omega), ne 16 (by omega) (by omega) (by omega)]
    exact hR
  · rw [n26 14 (by omega)]; exact h2
  · rw [n26 15 (by omega)]; exact h3
  · rw [e26]
    show upd (M 26) 10 (M 26 10 + 1) 10 = nI (tk + 1)
    rw [show M 26 10 = nI tk from h4, nI_1]
    exact if_pos rfl
  · rw [n26 11 (by omega)]; exact h5
theorem DT.miss {st pa : Nat → Nat} {h : Hd} {tk ms : Nat} (hD : DT g (st, pa, h, tk, ms) M) : DT g (st, pa, h, tk, ms + 1) (mset M 26 11 (M 26 11 + 1)) := by
  obtain ⟨h1, h2, h3, ⟨a1, a2, a3, a4⟩, h4, h5⟩ := hD
  have ne : ∀ k, k ≠ 26 → mset M 26 11 (M 26 11 + 1) k = M k := fun k hk => mset_ne M _ _ hk
  have n26 : ∀ j, j ≠ 11 → mset M 26 11 (M 26 11 + 1) 26 j = M 26 j := fun j hj => by rw [mset_eq]; exact if_neg hj
  refine ⟨h1.fr (fun k a b => ne k (by omega)), ?_, ?_, ⟨?_, ?_, ?_, ?_⟩, ?_, ?_⟩
  · rw [n26 14 (by omega)]; exact h2
  · rw [n26 15 (by omega)]; exact h3
  · rw [ne 27 (by omega)]; exact a1
  · rw [ne 27 (by omega)]; exact a2
  · rw [ne 27 (by omega)]; exact a3
  · rw [ne 27 (by omega)]; exact a4
  · rw [n26 10 (by omega)]; exact h4
  · rw [mset_eq]
    show upd (M 26) 11 (M 26 11 + 1) 11 = nI (ms + 1)
    rw [show M 26 11 = nI ms from h5, nI_1]
    exact if_pos rfl
theorem c_T_takesPart {s : Nat} (hD : DT g rs M) (hX : DX g M) (hb : rsB rs) (h19 : g 31 19 ≤ 3) (hmis : ∀ n, g 43 n ≤ 1) (hs : s < 8) (k : ∀ M', sD M M' → DT g (rs.1, (tpF g s (g 31 19 + 1) rs.2).2) M' → Q (b2 (tpF g s (g 31 19 + 1) rs.2).1) M') : CE E (d + 1) n_T_takesPart [.inr 26, .inl (nI s)] M Q := by
  have v : vp_in (nI s) 8 := vp_in_nI hs (by omega)
  generalize hT : tpF g s (g 31 19 + 1) rs.2 = T at k
  have key : ∀ (n c : Nat) (r : TP) (M1 : Mem), c + n = g 31 19 + 1 → DT g (rs.1, r) M1 → sD M M1 → tpF g s n r = T → r.2.2.1 + n < 2 ^ 21 → (∀ t, t < 8 → r.1 t ≤ 100) → JE E (d + 1) n_T_takesPart 2 [some (.inr 26), some (.inl (nI s)), some (.inl (nI c))] [] M1 Q := by
    intro n
    induction n with
    | zero =>
      intro c r M1 hc hD1 s1 hfin htk hpa
      have hX1 := hX.sD s1
      rw [tpF] at hfin
      subst hfin
      refine b_T_takesPart_2 _ _ ⟨fun _ => ⟨z01_0, k M1 s1 hD1⟩, fun c1 => ?_⟩
      rw [hX1.2, nI_ltI (by omega) (by omega)] at c1
      omega
    | succ n ih =>
      intro c r M1 hc hD1 s1 hfin htk hpa
      have hX1 := hX.sD s1
      obtain ⟨pa, hd, tk, ms⟩ := r
      rw [tpF] at hfin
      have hps := hpa s hs
      simp only at hfin hps htk
      have m13 : M1 13 s = nI (pa s) := (hD1.1.2.2.1 s hs).2
      have m14 : M1 14 1 = nI (g 31 12) := hD1.1.2.2.2.1.2.1
      refine b_T_takesPart_2 _ _ ⟨fun c1 => ?_, fun _ => ?_⟩
      · rw [hX1.2, nI_ltI (by omega) (by omega)] at c1
        omega
      rw [nI_clamp (by omega), m13, one_nI, nI_leI (by omega) (by omega)]
      refine ⟨v, fun c2 => ⟨v, v, ?_⟩, fun c2 => ⟨z01_0, ?_⟩⟩
      · rw [if_neg (by omega)] at hfin
        rw [pk_sub (by omega), ← one_nI, m14]
        have H0 : HD 27 hd (mset (mset M1 13 s (nI (pa s - 1))) 26 10 (M1 26 10 + 1)) := by
          unfold HD
          rw [mset_ne _ _ _ (by omega), mset_ne _ _ _ (by omega)]
          exact hD1.2.2.2.1
        refine c_H_spend_27 H0 (fun M2 s2 H2 => ?_)
        have hD2 : DT g (rs.1, fs pa s (pa s - 1), hAdd hd (g 31 12), tk + 1, ms) M2 := hD1.take s2 H2
        have s12 : sD M M2 := ((s1.tr (sD.set13 _ _)).tr (sD.set26 10 _ (by omega))).tr (sD.ofH s2)
        have hX2 := hX.sD s12
        have e10 : M2 26 10 = nI (tk + 1) := hD2.2.2.2.2.1
        rw [e10, show (200 : Int32) = nI 200 from rfl, nI_ltI (by omega) (by omega)]
        refine ⟨fun c3 => ⟨z01_1, ?_⟩, fun c3 => ⟨vp_in_nI (by omega) (by omega), ?_⟩⟩
        · rw [if_pos (Or.inl c3)] at hfin
          subst hfin
          exact k M2 s12 hD2
        · have hm1 := hmis (tk + 1)
          rw [nI_clamp (by omega), hX2.1 _ (by omega), zero_nI, nI_eq (by omega) (by omega), nI_1]
          refine ⟨fun c4 => ?_, fun c4 => ⟨z01_1, ?_⟩⟩
          · rw [if_neg (by omega)] at hfin
            refine ih (c + 1) _ _ (by omega) hD2.miss (s12.tr (sD.set26 11 _ (by omega))) hfin (by show tk + 1 + n < _; omega) (fun t ht => ?_)
            show fs pa s (pa s - 1) t ≤ 100
            unfold fs
            split
            · omega
            · exact hpa t ht
          · rw [if_pos (Or.inr c4)] at hfin
            subst hfin
            exact k M2 s12 hD2
      · rw [if_pos (by omega)] at hfin
        subst hfin
        exact k M1 s1 hD1
  refine CE_of rfl (b_T_takesPart_0 _ ?_)
  exact key (g 31 19 + 1) 0 rs.2 M (by omega) hD sD.rf hT (by have := hb.2.2.2; omega) hb.2.1
end DV
