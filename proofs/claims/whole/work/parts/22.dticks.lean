/-! The class: the head, fills, ticks. -/
def HD (c : Nat) (h : Hd) (M : Mem) : Prop := M c 0 = nI h.1 ∧ M c 1 = nI h.2.1 ∧ M c 2 = nI h.2.2.1 ∧ M c 3 = nI h.2.2.2
/-- only the cell c has changed -/
def sO (c : Nat) (M M' : Mem) : Prop := ∀ k, k ≠ c → M' k = M k
theorem sO.rf {c : Nat} {M : Mem} : sO c M M := fun _ _ => rfl
theorem sO.tr {c : Nat} {M M1 M2 : Mem} (h1 : sO c M M1) (h2 : sO c M1 M2) : sO c M M2 := fun k hk => (h2 k hk).trans (h1 k hk)
theorem sO.set {M : Mem} (c j : Nat) (x : Int32) : sO c M (mset M c j x) := fun k hk => mset_ne M j x hk
theorem DC.sO {g : GS} {M M' : Mem} (h : DC g M) {c : Nat} (hc : c = 0 ∨ 16 < c) (e : sO c M M') : DC g M' := h.fr (fun k h1 h2 => e k (by omega))
section DH
variable {E : Env0} {d : Nat} {M : Mem} {Q : Int32 → Mem → Prop} {g : GS}
theorem c_H_restart_18 (k : ∀ M', sO 18 M M' → HD 18 (0, 0, 0, 0) M' → Q 0 M') : CE E d n_H_restart [.inr 18] M Q := by
  refine CE_of rfl (b_H_restart_18_0 (k _ ?_ ?_))
  · exact (((sO.set 18 0 0).tr (sO.set 18 1 0)).tr (sO.set 18 2 0)).tr (sO.set 18 3 0)
  · unfold HD
    simp only [mset_eq, upd]
    exact ⟨rfl, rfl, rfl, rfl⟩
theorem c_H_spend_18 {h : Hd} {n : Nat} (hH : HD 18 h M) (k : ∀ M', sO 18 M M' → HD 18 (hAdd h n) M' → Q 0 M') : CE E d n_H_spend [.inr 18, .inl (nI n)] M Q := by
  obtain ⟨h1, h2, h3, h4⟩ := hH
  refine CE_of rfl (b_H_spend_18_0 _ (k _ (sO.set 18 3 _) ?_))
  unfold HD hAdd
  rw [mset_eq, h4, nI_add]
  exact ⟨h1, h2, h3, rfl⟩
theorem c_H_moveTo_18 {x y : Nat} {h : Hd} (hH : HD 18 h M) (hb : hB h) (hx : x ≤ 199) (hy : y ≤ 199) (k : ∀ M', sO 18 M M' → HD 18 (hGo h x y) M' → Q 0 M') : CE E (d + 1) n_H_moveTo [.inr 18, .inl (nI x), .inl (nI y)] M Q := by
  obtain ⟨h1, h2, h3, h4⟩ := hH
  obtain ⟨b1, b2', -⟩ := hb
  refine CE_of rfl (b_H_moveTo_18_0 _ _ ?_)
  rw [h1, h2, h4]
  refine c_D_way (by omega) (by omega) (by omega) (by omega) (k _ ?_ ?_)
  · exact ((sO.set 18 3 _).tr (sO.set 18 0 _)).tr (sO.set 18 1 _)
  · unfold HD hGo
    simp only [mset_eq, upd]
    exact ⟨rfl, rfl, h3, by simp [nI_add]⟩
theorem c_H_bear_18 {n c : Nat} {h : Hd} (hH : HD 18 h M) (hb : hB h) (hn : n ≤ 2) (k : ∀ M', sO 18 M M' → HD 18 (hBear h n c) M' → Q 0 M') : CE E d n_H_bear [.inr 18, .inl (nI n), .inl (nI c)] M Q := by
  obtain ⟨h1, h2, h3, h4⟩ := id hH
  have h5 := hb.2.2
  refine CE_of rfl (b_H_bear_18_0 _ _ ⟨fun c1 => k _ sO.rf ?_, fun c1 => k _ ((sO.set 18 2 _).tr (sO.set 18 3 _)) ?_⟩)
  · rw [h3, nI_eq (by omega) (by omega)] at c1
    unfold hBear
    rw [if_pos c1]
    exact hH
  · rw [h3, nI_eq (by omega) (by omega)] at c1
    unfold hBear
    rw [if_neg c1]
    unfold HD
    simp only [mset_eq, upd]
    exact ⟨h1, h2, rfl, by simp [h4, nI_add]⟩
theorem c_H_restart_27 (k : ∀ M', sO 27 M M' → HD 27 (0, 0, 0, 0) M' → Q 0 M') : CE E d n_H_restart [.inr 27] M Q := by
  refine CE_of rfl (b_H_restart_27_0 (k _ ?_ ?_))
  · exact (((sO.set 27 0 0).tr (sO.set 27 1 0)).tr (sO.set 27 2 0)).tr (sO.set 27 3 0)
  · unfold HD
    simp only [mset_eq, upd]
    exact ⟨rfl, rfl, rfl, rfl⟩
theorem c_H_spend_27 {h : Hd} {n : Nat} (hH : HD 27 h M) (k : ∀ M', sO 27 M M' → HD 27 (hAdd h n) M' → Q 0 M') : CE E d n_H_spend [.inr 27, .inl (nI n)] M Q := by
  obtain ⟨h1, h2, h3, h4⟩ := hH
  refine CE_of rfl (b_H_spend_27_0 _ (k _ (sO.set 27 3 _) ?_))
  unfold HD hAdd
  rw [mset_eq, h4, nI_add]
  exact ⟨h1, h2, h3, rfl⟩
theorem c_H_moveTo_27 {x y : Nat} {h : Hd} (hH : HD 27 h M) (hb : hB h) (hx : x ≤ 199) (hy : y ≤ 199) (k : ∀ M', sO 27 M M' → HD 27 (hGo h x y) M' → Q 0 M') : CE E (d + 1) n_H_moveTo [.inr 27, .inl (nI x), .inl (nI y)] M Q := by
  obtain ⟨h1, h2, h3, h4⟩ := hH
  obtain ⟨b1, b2', -⟩ := hb
  refine CE_of rfl (b_H_moveTo_27_0 _ _ ?_)
  rw [h1, h2, h4]
  refine c_D_way (by omega) (by omega) (by omega) (by omega) (k _ ?_ ?_)
  · exact ((sO.set 27 3 _).tr (sO.set 27 0 _)).tr (sO.set 27 1 _)
  · unfold HD hGo
    simp only [mset_eq, upd]
    exact ⟨rfl, rfl, h3, by simp [nI_add]⟩
theorem c_H_bear_27 {n c : Nat} {h : Hd} (hH : HD 27 h M) (hb : hB h) (hn : n ≤ 2) (k : ∀ M', sO 27 M M' → HD 27 (hBear h n c) M' → Q 0 M') : CE E d n_H_bear [.inr 27, .inl (nI n), .inl (nI c)] M Q := by
  obtain ⟨h1, h2, h3, h4⟩ := id hH
  have h5 := hb.2.2
  refine CE_of rfl (b_H_bear_27_0 _ _ ⟨fun c1 => k _ sO.rf ?_, fun c1 => k _ ((sO.set 27 2 _).tr (sO.set 27 3 _)) ?_⟩)
  · rw [h3, nI_eq (by omega) (by omega)] at c1
    unfold hBear
    rw [if_pos c1]
    exact hH
  · rw [h3, nI_eq (by omega) (by omega)] at c1
    unfold hBear
    rw [if_neg c1]
    unfold HD
    simp only [mset_eq, upd]
    exact ⟨h1, h2, rfl, by simp [h4, nI_add]⟩
theorem c_JA_fill_19 {x : Int32} (k : ∀ M', sO 19 M M' → (∀ j, j < 8 → M' 19 j = x) → Q 0 M') : CE E d n_JA_fill [.inr 19, .inl x] M Q := by
  refine CE_of rfl (b_JA_fill_19_0 _ ?_)
  have key : ∀ (n i : Nat) (M1 : Mem), i + n = 8 → sO 19 M M1 → (∀ j, j < i → M1 19 j = x) → JE E d n_JA_fill 5 [some (.inr 19), some (.inl x), some (.inl (nI i)), some (.inl (nI 8))] [] M1 Q := by
    intro n
    induction n with
    | zero =>
      intro i M1 hi s1 hf
      exact b_JA_fill_19_5 _ _ _ ⟨fun _ => k M1 s1 (fun j hj => hf j (by omega)), fun c1 => absurd (nI_le (by omega) (by omega)) c1⟩
    | succ n ih =>
      intro i M1 hi s1 hf
      refine b_JA_fill_19_5 _ _ _ ⟨fun c1 => absurd c1 (nI_ge (by omega) (by omega)), fun _ => ⟨vp_in_nI (by omega) (by omega), ?_⟩⟩
      rw [nI_clamp (by omega), nI_1]
      refine ih (i + 1) _ (by omega) (s1.tr (sO.set 19 _ _)) (fun j hj => ?_)
      rw [mset_eq]
      unfold upd
      by_cases e : j = i
      · rw [if_pos e]
      · rw [if_neg e]; exact hf j (by omega)
  exact key 8 0 M (by omega) sO.rf (fun j hj => by omega)
theorem c_JA_fill_25 {x : Int32} (k : ∀ M', sO 25 M M' → (∀ j, j < 1024 → M' 25 j = x) → Q 0 M') : CE E d n_JA_fill [.inr 25, .inl x] M Q := by
  refine CE_of rfl (b_JA_fill_25_0 _ ?_)
  have key : ∀ (n i : Nat) (M1 : Mem), i + n = 1024 → sO 25 M M1 → (∀ j, j < i → M1 25 j = x) → JE E d n_JA_fill 5 [some (.inr 25), some (.inl x), some (.inl (nI i)), some (.inl (nI 1024))] [] M1 Q := by
    intro n
    induction n with
    | zero =>
      intro i M1 hi s1 hf
      exact b_JA_fill_25_5 _ _ _ ⟨fun _ => k M1 s1 (fun j hj => hf j (by omega)), fun c1 => absurd (nI_le (by omega) (by omega)) c1⟩
    | succ n ih =>
      intro i M1 hi s1 hf
      refine b_JA_fill_25_5 _ _ _ ⟨fun c1 => absurd c1 (nI_ge (by omega) (by omega)), fun _ => ⟨vp_in_nI (by omega) (by omega), ?_⟩⟩
      rw [nI_clamp (by omega), nI_1]
      refine ih (i + 1) _ (by omega) (s1.tr (sO.set 25 _ _)) (fun j hj => ?_)
      rw [mset_eq]
      unfold upd
      by_cases e : j = i
      · rw [if_pos e]
      · rw [if_neg e]; exact hf j (by omega)
  exact key 1024 0 M (by omega) sO.rf (fun j hj => by omega)
theorem c_JA_fill_30 {x : Int32} (k : ∀ M', sO 30 M M' → (∀ j, j < 8 → M' 30 j = x) → Q 0 M') : CE E d n_JA_fill [.inr 30, .inl x] M Q := by
  refine CE_of rfl (b_JA_fill_30_0 _ ?_)
  have key : ∀ (n i : Nat) (M1 : Mem), i + n = 8 → sO 30 M M1 → (∀ j, j < i → M1 30 j = x) → JE E d n_JA_fill 5 [some (.inr 30), some (.inl x), some (.inl (nI i)), some (.inl (nI 8))] [] M1 Q := by
    intro n
    induction n with
    | zero =>
      intro i M1 hi s1 hf
      exact b_JA_fill_30_5 _ _ _ ⟨fun _ => k M1 s1 (fun j hj => hf j (by omega)), fun c1 => absurd (nI_le (by omega) (by omega)) c1⟩
    | succ n ih =>
      intro i M1 hi s1 hf
      refine b_JA_fill_30_5 _ _ _ ⟨fun c1 => absurd c1 (nI_ge (by omega) (by omega)), fun _ => ⟨vp_in_nI (by omega) (by omega), ?_⟩⟩
      rw [nI_clamp (by omega), nI_1]
      refine ih (i + 1) _ (by omega) (s1.tr (sO.set 30 _ _)) (fun j hj => ?_)
      rw [mset_eq]
      unfold upd
      by_cases e : j = i
      · rw [if_pos e]
      · rw [if_neg e]; exact hf j (by omega)
  exact key 8 0 M (by omega) sO.rf (fun j hj => by omega)
theorem c_K_noteWants {i e : Nat} (hD : DC g M) (hW : Wk g) (hie : i ≤ e) (he : e ≤ pln g) (k : ∀ M', sO 19 M M' → (∀ s, s < 8 → M' 19 s = nI (slC g i e s)) → Q (nI (fnC g i e)) M') : CE E (d + 1) n_K_noteWants [.inr 17, .inl (nI i), .inl (nI e)] M Q := by
  have hn := hW.2.1
  have hp10 := hW.1
  refine CE_of rfl (b_K_noteWants_0 _ _ (c_JA_fill_19 (fun M1 s1 hf => ?_)))
  have key : ∀ (n j : Nat) (M1 : Mem) (o1 o5 o6 : Option V), j + n = e → i ≤ j → sO 19 M M1 → (∀ s, s < 8 → M1 19 s = nI (cnt (fun j => slO g (kdA g j) == s) (j - i) i)) → JE E (d + 1) n_K_noteWants 13 [some (.inr 17), o1, some (.inl (nI e)), some (.inl (nI (cnt (fun j => g 35 (kdA g j) == 1) (j - i) i))), some (.inl (nI j)), o5, o6] [] M1 Q := by
    intro n
    induction n with
    | zero =>
      intro j M1 o1 o5 o6 hj hij s1 hf
      have e0 : j = e := by omega
      subst e0
      exact b_K_noteWants_13 _ _ _ _ _ _ ⟨fun _ => k M1 s1 hf, fun c1 => absurd (nI_le (by omega) (by omega)) c1⟩
    | succ n ih =>
      intro j M1 o1 o5 o6 hj hij s1 hf
      have hD1 := hD.sO (c := 19) (by omega) s1
      have hpj := (hW.2.2.2.2.2.2.2.2 j (by omega)).2
      have hk := hW.kd (i := j) (by omega)
      have hsl := slO_le g (kdA g j)
      have ecn : ∀ (P : Nat → Bool), cnt P (j + 1 - i) i = cnt P (j - i) i + (if P j then 1 else 0) := by
        intro P
        rw [show j + 1 - i = (j - i) + 1 by omega, cnt_last, show i + (j - i) = j by omega]
      have fin : ∀ (M2 : Mem) (o1 o5 o6 : Option V), sO 19 M M2 → (∀ s, s < 8 → M2 19 s = nI (cnt (fun j => slO g (kdA g j) == s) (j + 1 - i) i)) → CE E d n_B_isFine [.inr 1, .inl (nI (plc g j))] M2 (fun r M3 => (r = 0 → JE E (d + 1) n_K_noteWants 13 [some (.inr 17), o1, some (.inl (nI e)), some (.inl (nI (cnt (fun j => g 35 (kdA g j) == 1) (j - i) i))), some (.inl (nI j + 1)), o5, o6] [] M3 Q) ∧ (¬ r = 0 → JE E (d + 1) n_K_noteWants 13 [some (.inr 17), o1, some (.inl (nI e)), some (.inl (nI (cnt (fun j => g 35 (kdA g j) == 1) (j - i) i) + 1)), some (.inl (nI j + 1)), o5, o6] [] M3 Q)) := by
        intro M2 o1 o5 o6 s2 hf2
        refine c_isFine (hD.sO (c := 19) (by omega) s2) hW hpj ⟨fun c1 => ?_, fun c1 => ?_⟩
        · rw [b2_z] at c1
          have := ih (j + 1) M2 o1 o5 o6 (by omega) (by omega) s2 hf2
          rw [ecn (fun j => g 35 (kdA g j) == 1), show (g 35 (kdA g j) == 1) = false from c1] at this
          rw [nI_1]
          exact this
        · rw [b2_nz] at c1
          have := ih (j + 1) M2 o1 o5 o6 (by omega) (by omega) s2 hf2
          rw [ecn (fun j => g 35 (kdA g j) == 1), show (g 35 (kdA g j) == 1) = true from c1] at this
          rw [nI_1, nI_1]
          exact this
      refine b_K_noteWants_13 _ _ _ _ _ _ ⟨fun c1 => absurd c1 (nI_ge (by omega) (by omega)), fun _ => c_placeAt hD1 hW (by omega) ⟨vp_in_nI (by omega) (by omega), ?_⟩⟩
      rw [nI_clamp (by omega), (hD1.2.1.2.1 _ hpj).2.2.1, show g 38 (plc g j) = kdA g j from rfl]
      refine c_lowestOf hD1 hW hk ⟨fun c2 => ?_, fun c2 => ?_⟩
      · rw [e8_none hsl] at c2
        refine fin M1 _ _ _ s1 (fun s hs => ?_)
        have e1 : (slO g (kdA g j) == s) = false := by
          simp
          omega
        rw [ecn, e1]
        exact hf s hs
      · rw [e8_none hsl] at c2
        have hlt : slO g (kdA g j) < 8 := by omega
        have e2 : e8 (slO g (kdA g j)) = nI (slO g (kdA g j)) := by
          unfold e8
          exact if_pos hlt
        rw [e2, nI_clamp (by omega), hf _ hlt, nI_1]
        refine ⟨vp_in_nI hlt (by omega), vp_in_nI hlt (by omega), fin _ _ _ _ (s1.tr (sO.set 19 _ _)) (fun s hs => ?_)⟩
        rw [mset_eq, ecn]
        unfold upd
        by_cases e3 : s = slO g (kdA g j)
        · rw [if_pos e3, ← e3]
          simp
        · rw [if_neg e3, hf s hs]
          have e4 : (slO g (kdA g j) == s) = false := by
            simp
            omega
          rw [e4]
          rfl
  have := key (e - i) i M1 (some (.inl (nI i))) none none (by omega) (by omega) s1 (fun s hs => by
    rw [Nat.sub_self, hf s hs]; rfl)
  rw [Nat.sub_self] at this
  exact this
/-- only the reckoner's own cells have changed -/
def sK (M M' : Mem) : Prop := ∀ k, k ≠ 18 → k ≠ 19 → M' k = M k
theorem sK.tr {M M1 M2 : Mem} (h1 : sK M M1) (h2 : sK M1 M2) : sK M M2 := fun k a b => (h2 k a b).trans (h1 k a b)
theorem sK.of18 {M M' : Mem} (h : sO 18 M M') : sK M M' := fun k a _ => h k a
theorem sK.of19 {M M' : Mem} (h : sO 19 M M') : sK M M' := fun k _ b => h k b
theorem sK.rf {M : Mem} : sK M M := fun _ _ _ => rfl
theorem DC.sK {M M' : Mem} (h : DC g M) (e : sK M M') : DC g M' := h.fr (fun k h1 h2 => e k (by omega) (by omega))
theorem c_K_reckonTour {i e : Nat} {hd : Hd} (hD : DC g M) (hW : Wk g) (hie : i < e) (he : e ≤ pln g) (hH : HD 18 hd M) (hb : hB hd) (k : ∀ M', sK M M' → HD 18 (trF g i e hd) M' → hB (trF g i e hd) → Q 0 M') : CE E (d + 2) n_K_reckonTour [.inr 17, .inl (nI i), .inl (nI e)] M Q := by
  have hn := hW.2.1
  have hp10 := hW.1
  have L131 : ∀ (n j : Nat) (hd : Hd) (M : Mem) (o1 o3 o5 : Option V), j + n = e → DC g M → HD 18 hd M → hB hd → (∀ M', sK M M' → HD 18 (plF g n j hd) M' → hB (plF g n j hd) → Q 0 M') → JE E (d + 2) n_K_reckonTour 131 [some (.inr 17), o1, some (.inl (nI e)), o3, some (.inl (nI j)), o5] [] M Q := by
    intro n
    induction n with
    | zero =>
      intro j hd M o1 o3 o5 hj hD hH hb k
      exact b_K_reckonTour_131 _ _ _ _ _ ⟨fun _ => k M sK.rf hH hb, fun c1 => absurd (nI_le (by omega) (by omega)) c1⟩
    | succ n ih =>
      intro j hd M o1 o3 o5 hj hD hH hb k
      have hpj := (hW.2.2.2.2.2.2.2.2 j (by omega)).2
      obtain ⟨a1, a2, a3⟩ := hW.2.2.1 (plc g j) (by omega)
      refine b_K_reckonTour_131 _ _ _ _ _ ⟨fun c1 => absurd c1 (nI_ge (by omega) (by omega)), fun _ => c_placeAt hD hW (by omega) ⟨vp_in_nI (by omega) (by omega), vp_in_nI (by omega) (by omega), ?_⟩⟩
      rw [nI_clamp (by omega), (hD.2.1.2.1 _ hpj).1, (hD.2.1.2.1 _ hpj).2.1]
      refine c_H_moveTo_18 hH hb a1 a2 (fun M1 s1 H1 => ?_)
      rw [(hD.sO (c := 18) (by omega) s1).2.2.2.1.2.2.1]
      refine c_H_spend_18 H1 (fun M2 s2 H2 => ?_)
      rw [nI_1]
      exact ih (j + 1) (plS g j hd) M2 _ _ _ (by omega) (hD.sO (c := 18) (by omega) (s1.tr s2)) H2 (hB_add (hB_go hb a1 a2)) (fun M' s3 => k M' ((sK.of18 (s1.tr s2)).tr s3))
  have L39 : ∀ (n s : Nat) (hd : Hd) (M : Mem) (o5 : Option V), s + n = 8 → DC g M → HD 18 hd M → hB hd → (∀ s, s < 8 → M 19 s = nI (slC g i e s)) → (∀ M', sK M M' → HD 18 (plF g (e - i) i (lkF g i e (slF g i e n s hd))) M' → hB (plF g (e - i) i (lkF g i e (slF g i e n s hd))) → Q 0 M') → JE E (d + 2) n_K_reckonTour 39 [some (.inr 17), some (.inl (nI i)), some (.inl (nI e)), some (.inl (nI (fnC g i e))), some (.inl (nI s)), o5] [] M Q := by
    intro n
    induction n with
    | zero =>
      intro s hd M o5 hs hD hH hb hw k
      have hf10 : fnC g i e ≤ 10 := Nat.le_trans (cnt_le _ _ _) (by omega)
      refine b_K_reckonTour_39 _ _ _ _ _ ⟨fun _ => ⟨fun c2 => ?_, fun c2 => ?_⟩, fun c1 => absurd (nI_le (a := 8) (by omega) (by omega)) c1⟩
      · rw [zero_nI, nI_leI (by omega) (by omega)] at c2
        have e1 : lkF g i e hd = hd := by unfold lkF; rw [if_neg (by omega)]
        rw [slF, e1] at k
        exact L131 (e - i) i hd M _ _ _ (by omega) hD hH hb k
      · rw [zero_nI, nI_leI (by omega) (by omega)] at c2
        have e1 : lkF g i e hd = hAdd (hGo hd 199 0) (fnC g i e * g 31 14) := by unfold lkF; rw [if_pos (by omega)]
        rw [slF, e1] at k
        refine c_H_moveTo_18 (x := 199) (y := 0) hH hb (by omega) (by omega) (fun M1 s1 H1 => ?_)
        rw [(hD.sO (c := 18) (by omega) s1).2.2.2.1.2.2.2.1, pk_mul]
        refine c_H_spend_18 H1 (fun M2 s2 H2 => ?_)
        exact L131 (e - i) i _ M2 _ _ _ (by omega) (hD.sO (c := 18) (by omega) (s1.tr s2)) H2 (hB_add (hB_go hb (by omega) (by omega))) (fun M' s3 => k M' ((sK.of18 (s1.tr s2)).tr s3))
    | succ n ih =>
      intro s hd M o5 hs hD hH hb hw k
      have hs10 : slC g i e s ≤ 10 := Nat.le_trans (cnt_le _ _ _) (by omega)
      refine b_K_reckonTour_39 _ _ _ _ _ ⟨fun c1 => absurd c1 (nI_ge (b := 8) (by omega) (by omega)), fun _ => ?_⟩
      rw [nI_clamp (by omega), hw s (by omega)]
      refine ⟨vp_in_nI (by omega) (by omega), fun c2 => ?_, fun c2 => ?_⟩
      · rw [zero_nI, nI_leI (by omega) (by omega)] at c2
        have e1 : slS g i e s hd = hd := by unfold slS; rw [if_neg (by omega)]
        rw [slF, e1] at k
        rw [nI_1]
        exact ih (s + 1) hd M _ (by omega) hD hH hb hw k
      · rw [zero_nI, nI_leI (by omega) (by omega)] at c2
        have e1 : slS g i e s hd = hAdd (hGo hd (20 * s) 0) (slC g i e s * g 31 12) := by unfold slS; rw [if_pos (by omega)]
        rw [slF, e1] at k
        rw [show (20 : Int32) * nI s = nI (20 * s) from pk_mul 20 s]
        refine c_H_moveTo_18 (x := 20 * s) (y := 0) hH hb (by omega) (by omega) (fun M1 s1 H1 => ⟨vp_in_nI (by omega) (by omega), ?_⟩)
        rw [s1 19 (by omega), hw s (by omega), (hD.sO (c := 18) (by omega) s1).2.2.2.1.2.1, pk_mul]
        refine c_H_spend_18 H1 (fun M2 s2 H2 => ?_)
        rw [nI_1]
        refine ih (s + 1) _ M2 _ (by omega) (hD.sO (c := 18) (by omega) (s1.tr s2)) H2 (hB_add (hB_go hb (by omega) (by omega))) (fun s' hs' => ?_) (fun M' s3 => k M' ((sK.of18 (s1.tr s2)).tr s3))
        rw [(s1.tr s2) 19 (by omega)]
        exact hw s' hs'
  have hpi := (hW.2.2.2.2.2.2.2.2 i (by omega)).2
  have hnz := (hW.2.2.2.1 _ (hW.kd (i := i) (by omega))).2.2.1
  refine CE_of rfl (b_K_reckonTour_0 _ _ (c_placeAt hD hW (by omega) (c_nozzleOf hD hW hpi ?_)))
  rw [hD.2.2.2.1.2.2.2.2]
  refine c_H_bear_18 hH hb hnz (fun M1 s1 H1 => ?_)
  have hD1 := hD.sO (c := 18) (by omega) s1
  refine c_K_noteWants hD1 hW (by omega) he (fun M2 s2 hw => ?_)
  refine L39 8 0 _ M2 _ (by omega) (hD1.sO (c := 19) (by omega) s2) ?_ (hB_bear hb hnz) hw (fun M' s3 => k M' ((((sK.of18 s1).tr (sK.of19 s2)).tr s3)))
  unfold HD at *
  rw [s2 18 (by omega)]
  exact H1
/-- the class's order of the tours -/
def rkF (g : GS) : Nat → Nat → Hd → Hd
  | 0, _, h => h
  | n + 1, i, h => rkF g n (i + 1) (if bgn g i then trF g i (enT g i) h else h)
theorem rk_skip (g : GS) : ∀ (m n i : Nat) (h : Hd), (∀ j, i ≤ j → j < i + m → bgn g j = false) → rkF g (m + n) i h = rkF g n (i + m) h
  | 0, n, i, h, _ => by rw [Nat.zero_add]; rfl
  | m + 1, n, i, h, hh => by
    rw [show m + 1 + n = (m + n) + 1 by omega, rkF, hh i (by omega) (by omega)]
    rw [if_neg (by decide), rk_skip g m n (i + 1) h (fun j h1 h2 => hh j (by omega) (by omega))]
    congr 1
    omega
theorem rk_tk (g : GS) : ∀ (f i : Nat) (h : Hd), i ≤ pln g → pln g ≤ i + f → (i < pln g → bgn g i = true) → rkF g (pln g - i) i h = tkF g f i h
  | 0, i, h, h1, h2, _ => by
    rw [show pln g - i = 0 by omega]
    rfl
  | f + 1, i, h, h1, h2, h3 => by
    rw [tkF]
    by_cases hi : i < pln g
    · rw [if_pos hi]
      have he := enT_le g hi
      have hno : ∀ j, i + 1 ≤ j → j < enT g i → bgn g j = false := fun j a b => fst_no (fun j => bgn g j) _ _ j a b
      have hyes : enT g i < pln g → bgn g (enT g i) = true := fun q => fst_yes (fun j => bgn g j) _ _ (by
        show enT g i < i + 1 + (pln g - (i + 1))
        omega)
      rw [show pln g - i = (pln g - (i + 1)) + 1 by omega, rkF, h3 hi, if_pos rfl]
      rw [show pln g - (i + 1) = (enT g i - (i + 1)) + (pln g - enT g i) by omega, rk_skip g _ _ (i + 1) _ (fun j a b => hno j a (by omega))]
      rw [show i + 1 + (enT g i - (i + 1)) = enT g i by omega]
      exact rk_tk g f (enT g i) _ he.2 (by omega) hyes
    · rw [if_neg hi, show pln g - i = 0 by omega]
      rfl
theorem c_K_reckon (hD : DC g M) (hW : Wk g) (hp : Wp g) (k : ∀ M', sK M M' → Q (nI (tkN g)) M') : CE E (d + 3) n_K_reckon [.inr 17] M Q := by
  have hn := hW.2.1
  refine CE_of rfl (b_K_reckon_0 (c_H_restart_18 (fun M1 s1 H1 => ?_)))
  have key : ∀ (n i : Nat) (hd : Hd) (M : Mem), i + n = pln g → DC g M → HD 18 hd M → hB hd → (∀ M', sK M M' → Q (nI (rkF g n i hd).2.2.2) M') → JE E (d + 3) n_K_reckon 9 [some (.inr 17), some (.inl (nI i))] [] M Q := by
    intro n
    induction n with
    | zero =>
      intro i hd M hi hD hH hb k
      have hl : M 15 1 = nI (pln g) := hD.2.2.2.2.1
      refine b_K_reckon_9 _ ⟨fun _ => ?_, fun c1 => absurd (by rw [hl]; exact nI_le (by omega) (by omega)) c1⟩
      rw [hH.2.2.2]
      exact k M sK.rf
    | succ n ih =>
      intro i hd M hi hD hH hb k
      have hl : M 15 1 = nI (pln g) := hD.2.2.2.2.1
      have he := enT_le g (i := i) (by omega)
      rw [rkF] at k
      refine b_K_reckon_9 _ ⟨fun c1 => absurd c1 (by rw [hl]; exact nI_ge (by omega) (by omega)), fun _ => c_beginsAt hD hW (by omega) ⟨fun c2 => ?_, fun c2 => ?_⟩⟩
      · rw [b2_z] at c2
        rw [c2] at k
        rw [nI_1]
        exact ih (i + 1) hd M (by omega) hD hH hb k
      · rw [b2_nz] at c2
        rw [c2] at k
        refine c_endOfTour hD hW (by omega) (c_K_reckonTour hD hW he.1 he.2 hH hb (fun M2 s2 H2 hb2 => ?_))
        rw [nI_1]
        exact ih (i + 1) _ M2 (by omega) (hD.sK s2) H2 hb2 (fun M' s3 => k M' (s2.tr s3))
  have hrk := rk_tk g (pln g) 0 (0, 0, 0, 0) (by omega) (by omega) (fun q => hp.2.1 q)
  refine key (pln g) 0 (0, 0, 0, 0) M1 (by omega) (hD.sO (c := 18) (by omega) s1) H1 ⟨Nat.zero_le _, Nat.zero_le _, Nat.zero_le _⟩ (fun M' s2 => ?_)
  rw [Nat.sub_zero] at hrk
  rw [hrk]
  exact k M' ((sK.of18 s1).tr s2)
end DH
