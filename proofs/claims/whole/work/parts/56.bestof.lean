/-! The best of some plans. -/
def eqN (n : Nat) (c c' : Nat → Nat) : Prop := ∀ j, j < n → c j = c' j
theorem gC_cong {g : GS} {c c' : Nat → Nat} (h : eqN (pls g) c c') (hc : vC g c) : gdB (gC g c') = gdB (gC g c) ∧ tkN (gC g c') = tkN (gC g c) := by
  have hv : VE (gC g c) (gC g c') := ⟨rfl, fun _ _ _ => rfl, fun _ _ => ⟨rfl, rfl, rfl, rfl, rfl⟩, fun _ _ _ _ => rfl⟩
  have h42 : ∀ j, j < pln (gC g c) → (gC g c') 42 j = (gC g c) 42 j := fun j hj => (h j hj).symm
  have hp : ∀ j, j < pln (gC g c) → plc (gC g c) j < pls (gC g c) := fun j hj => (hc.1 j hj).2
  exact ⟨v_gd hv rfl h42 hp, v_tk hv rfl h42 hp⟩
theorem gdF_ord {g : GS} : ∀ (n i c : Nat), gdF g n i c = true → ∀ i', i ≤ i' → i' < i + n → alB (fun j => !ahB g (plc g j) (plc g i')) (pln g - (i' + 1)) (i' + 1) = true
  | 0, i, c, _, i', a, b => by omega
  | n + 1, i, c, h, i', a, b => by
    rw [gdF, Bool.and_eq_true] at h
    by_cases e : i' = i
    · subst e
      have := h.1
      unfold gdS at this
      rw [Bool.and_eq_true, Bool.and_eq_true, Bool.and_eq_true] at this
      exact this.2.2.2
    · exact gdF_ord n (i + 1) _ h.2 i' (by omega) (by omega)
/-- a good plan is in order -/
theorem gd_ord {g : GS} {c : Nat → Nat} (h : gdB (gC g c) = true) : ∀ i j, i < j → j < pls g → ahB g (c j % 16) (c i % 16) = false := by
  intro i j hij hj
  unfold gdB at h
  rw [Bool.and_eq_true] at h
  have := gdF_ord _ _ _ h.2 i (by omega) (by show i < 0 + pls g; omega)
  rw [alB_iff] at this
  have := this j (by omega) (by show j < i + 1 + (pls g - (i + 1)); omega)
  have e : (!ahB g (c j % 16) (c i % 16)) = true := this
  simpa using e
theorem LX_rf (n : Nat) (c : Nat → Nat) : LX n c c := ⟨n, Nat.le_refl n, fun _ _ => rfl, Or.inl rfl⟩
theorem LX_lt {n : Nat} {a b c : Nat → Nat} (h1 : ∃ j, j < n ∧ (∀ j', j' < j → a j' = b j') ∧ a j < b j) (h2 : LX n b c) : LX n a c := by
  obtain ⟨j, j1, j2, j3⟩ := h1
  obtain ⟨k, k1, k2, k3⟩ := h2
  by_cases q : j < k
  · exact ⟨j, by omega, fun j' h => (j2 j' h).trans (k2 j' (by omega)), Or.inr (by rw [← k2 j q]; exact j3)⟩
  · rcases k3 with e | e
    · omega
    · by_cases q2 : k = j
      · subst q2
        exact ⟨k, k1, fun j' h => (j2 j' h).trans (k2 j' h), Or.inr (by omega)⟩
      · exact ⟨k, k1, fun j' h => (j2 j' (by omega)).trans (k2 j' h), Or.inr (by rw [j2 k (by omega)]; exact e)⟩
theorem LX_tot {n : Nat} {a b : Nat → Nat} (h : ¬ ∃ j, j < n ∧ (∀ j', j' < j → a j' = b j') ∧ a j < b j) : LX n b a := by
  have key : ∀ m k, k + m = n → (∀ j, j < k → a j = b j) → LX n b a := by
    intro m
    induction m with
    | zero => intro k hk he; exact ⟨k, by omega, fun j' hj => (he j' hj).symm, Or.inl (by omega)⟩
    | succ m ih =>
      intro k hk he
      by_cases q : a k = b k
      · refine ih (k + 1) (by omega) (fun j hj => ?_)
        by_cases q2 : j = k
        · rw [q2]; exact q
        · exact he j (by omega)
      · have : ¬ a k < b k := fun z => h ⟨k, by omega, he, z⟩
        exact ⟨k, by omega, fun j' hj => (he j' hj).symm, Or.inr (by omega)⟩
  exact key n 0 (by omega) (fun j hj => by omega)
/-- best of the plans of which P holds -/
def BSo (g : GS) (P : (Nat → Nat) → Prop) (l : Int32) (row : Nat → Int32) : Prop :=
  (l = -1 ∧ ∀ c, vC g c → P c → gdB (gC g c) = false) ∨ ∃ c, vC g c ∧ P c ∧ gdB (gC g c) = true ∧ l = nI (tkN (gC g c)) ∧ (∀ j, j < pls g → row j = nI (c j)) ∧ ∀ c', vC g c' → P c' → gdB (gC g c') = true → tkN (gC g c) < tkN (gC g c') ∨ (tkN (gC g c) = tkN (gC g c') ∧ LX (pls g) c c')
theorem BSo.all {g : GS} {P : (Nat → Nat) → Prop} {l : Int32} {row : Nat → Int32} (h : BSo g P l row) (hP : ∀ c, vC g c → gdB (gC g c) = true → P c) : BS g l row := by
  rcases h with ⟨h1, h2⟩ | ⟨c, h1, h2, h3, h4, h5, h6⟩
  · refine Or.inl ⟨h1, fun c hc => ?_⟩
    cases hg : gdB (gC g c)
    · rfl
    · rw [h2 c hc (hP c hc hg)] at hg; exact absurd hg (by decide)
  · exact Or.inr ⟨c, h1, h3, h4, h5, fun c' hc' hg => h6 c' hc' (hP c' hc' hg) hg⟩
theorem BSo.ext {g : GS} {P P' : (Nat → Nat) → Prop} {l : Int32} {row : Nat → Int32} (h : BSo g P l row) (hP : ∀ c, vC g c → gdB (gC g c) = true → (P c ↔ P' c)) : BSo g P' l row := by
  rcases h with ⟨h1, h2⟩ | ⟨c, h1, h2, h3, h4, h5, h6⟩
  · refine Or.inl ⟨h1, fun c hc hp => ?_⟩
    cases hg : gdB (gC g c)
    · rfl
    · rw [h2 c hc ((hP c hc hg).mpr hp)] at hg; exact absurd hg (by decide)
  · exact Or.inr ⟨c, h1, (hP c h1 h3).mp h2, h3, h4, h5, fun c' hc' hp hg => h6 c' hc' ((hP c' hc' hg).mpr hp) hg⟩
