/-! The best of some plans and one more. -/
theorem BSo.bad {g : GS} {P : (Nat → Nat) → Prop} {l : Int32} {row : Nat → Int32} {c0 : Nat → Nat} (h : BSo g P l row) (hb : gdB (gC g c0) = false) : BSo g (fun c => P c ∨ eqN (pls g) c c0) l row := by
  refine h.ext (fun c hc hg => ⟨Or.inl, fun q => ?_⟩)
  rcases q with q | q
  · exact q
  · rw [(gC_cong q hc).1, hg] at hb
    exact absurd hb (by decide)
theorem BSo.put {g : GS} {P : (Nat → Nat) → Prop} {l : Int32} {row row' : Nat → Int32} {c0 : Nat → Nat} (h : BSo g P l row) (hc0 : vC g c0) (hg0 : gdB (gC g c0) = true) (hrow : ∀ j, j < pls g → row' j = nI (c0 j)) (hbet : ∀ c, vC g c → gdB (gC g c) = true → l = nI (tkN (gC g c)) → (∀ j, j < pls g → row j = nI (c j)) → tkN (gC g c0) < tkN (gC g c) ∨ (tkN (gC g c0) = tkN (gC g c) ∧ ∃ j, j < pls g ∧ (∀ j', j' < j → c0 j' = c j') ∧ c0 j < c j)) : BSo g (fun c => P c ∨ eqN (pls g) c c0) (nI (tkN (gC g c0))) row' := by
  refine Or.inr ⟨c0, hc0, Or.inr (fun _ _ => rfl), hg0, rfl, hrow, fun c' hc' hp hg => ?_⟩
  rcases hp with hp | hp
  · rcases h with ⟨h1, h2⟩ | ⟨c, h1, h2, h3, h4, h5, h6⟩
    · rw [h2 c' hc' hp] at hg
      exact absurd hg (by decide)
    · have q := h6 c' hc' hp hg
      rcases hbet c h1 h3 h4 h5 with b | ⟨b1, b2⟩
      · left
        rcases q with q | q
        · omega
        · omega
      · rcases q with q | ⟨q1, q2⟩
        · left; omega
        · exact Or.inr ⟨by omega, LX_lt b2 q2⟩
  · refine Or.inr ⟨((gC_cong hp hc').2), pls g, Nat.le_refl _, fun j' hj => (hp j' hj).symm, Or.inl rfl⟩
theorem BSo.stay {g : GS} {P : (Nat → Nat) → Prop} {l : Int32} {row : Nat → Int32} {c0 : Nat → Nat} (h : BSo g P l row) (hl : l ≠ -1) (hw : ∀ c, vC g c → gdB (gC g c) = true → l = nI (tkN (gC g c)) → (∀ j, j < pls g → row j = nI (c j)) → tkN (gC g c) < tkN (gC g c0) ∨ (tkN (gC g c) = tkN (gC g c0) ∧ ¬ ∃ j, j < pls g ∧ (∀ j', j' < j → c0 j' = c j') ∧ c0 j < c j)) : BSo g (fun c => P c ∨ eqN (pls g) c c0) l row := by
  rcases h with ⟨h1, h2⟩ | ⟨c, h1, h2, h3, h4, h5, h6⟩
  · exact absurd h1 hl
  · refine Or.inr ⟨c, h1, Or.inl h2, h3, h4, h5, fun c' hc' hp hg => ?_⟩
    rcases hp with hp | hp
    · exact h6 c' hc' hp hg
    · have e := (gC_cong hp hc').2
      rcases hw c h1 h3 h4 h5 with b | ⟨b1, b2⟩
      · left; omega
      · refine Or.inr ⟨by omega, ?_⟩
        obtain ⟨j, j1, j2, j3⟩ := LX_tot b2
        refine ⟨j, j1, fun j' hj => (j2 j' hj).trans (hp j' (by omega)).symm, ?_⟩
        rcases j3 with j3 | j3
        · exact Or.inl j3
        · by_cases q : j = pls g
          · exact Or.inl q
          · exact Or.inr (by rw [hp j (by omega)]; exact j3)
/-- the code at j of a row and a mask -/
def cdM (r : Nat → Nat) (w j : Nat) : Nat := r j + (if j = 0 ∨ w.testBit (j - 1) = true then 16 else 0)
theorem cdM_mod {r : Nat → Nat} {w j : Nat} (h : r j < 16) : cdM r w j % 16 = r j ∧ cdM r w j < 32 ∧ (16 ≤ cdM r w j ↔ j = 0 ∨ w.testBit (j - 1) = true) := by
  unfold cdM
  split
  · next c => exact ⟨by omega, by omega, fun _ => c, fun _ => by omega⟩
  · next c => exact ⟨by omega, by omega, fun z => by omega, fun z => absurd z c⟩
