/-! Plans look only at places, at the kinds of places and at the slots of these. -/
theorem fst_cong {P R : Nat → Bool} : ∀ n i, (∀ j, i ≤ j → j < i + n → P j = R j) → fst P n i = fst R n i
  | 0, _, _ => rfl
  | n + 1, i, h => by
    rw [fst, fst, h i (by omega) (by omega), fst_cong n (i + 1) (fun j a b => h j (by omega) (by omega))]
theorem alB_cong {P R : Nat → Bool} : ∀ n i, (∀ j, i ≤ j → j < i + n → P j = R j) → alB P n i = alB R n i
  | 0, _, _ => rfl
  | n + 1, i, h => by
    rw [alB, alB, h i (by omega) (by omega), alB_cong n (i + 1) (fun j a b => h j (by omega) (by omega))]
/-- two states that a plan cannot tell apart -/
def VE (g g' : GS) : Prop := pls g' = pls g ∧ (∀ j, 11 ≤ j → j ≤ 15 → g' 31 j = g 31 j) ∧ (∀ p, p < pls g → g' 36 p = g 36 p ∧ g' 37 p = g 37 p ∧ g' 34 (g' 38 p) = g 34 (g 38 p) ∧ g' 35 (g' 38 p) = g 35 (g 38 p) ∧ slO g' (g' 38 p) = slO g (g 38 p)) ∧ ∀ p q, p < pls g → q < pls g → ahB g' p q = ahB g p q
section VW
variable {g g' : GS}
theorem v_plc (h42 : ∀ j, j < pln g → g' 42 j = g 42 j) {j : Nat} (hj : j < pln g) : plc g' j = plc g j := by
  unfold plc
  rw [h42 j hj]
theorem v_bgn (h42 : ∀ j, j < pln g → g' 42 j = g 42 j) {j : Nat} (hj : j < pln g) : bgn g' j = bgn g j := by
  unfold bgn
  rw [h42 j hj]
theorem v_all (hv : VE g g') (h42 : ∀ j, j < pln g → g' 42 j = g 42 j) (hp : ∀ j, j < pln g → plc g j < pls g) {j : Nat} (hj : j < pln g) : nzA g' j = nzA g j ∧ g' 35 (kdA g' j) = g 35 (kdA g j) ∧ slO g' (kdA g' j) = slO g (kdA g j) ∧ g' 36 (plc g' j) = g 36 (plc g j) ∧ g' 37 (plc g' j) = g 37 (plc g j) := by
  have := hv.2.2.1 (plc g j) (hp j hj)
  unfold nzA kdA
  rw [v_plc h42 hj]
  exact ⟨this.2.2.1, this.2.2.2.1, this.2.2.2.2, this.1, this.2.1⟩
theorem v_en (hl : pln g' = pln g) (h42 : ∀ j, j < pln g → g' 42 j = g 42 j) {i : Nat} (hi : i < pln g) : enT g' i = enT g i := by
  unfold enT
  rw [hl]
  exact fst_cong _ _ (fun j a b => v_bgn h42 (by omega))
theorem v_slC (hv : VE g g') (h42 : ∀ j, j < pln g → g' 42 j = g 42 j) (hp : ∀ j, j < pln g → plc g j < pls g) {i e s : Nat} (he : e ≤ pln g) : slC g' i e s = slC g i e s := by
  unfold slC
  apply cnt_cong
  intro j a b
  rw [(v_all hv h42 hp (by omega)).2.2.1]
theorem v_slF (hv : VE g g') (h42 : ∀ j, j < pln g → g' 42 j = g 42 j) (hp : ∀ j, j < pln g → plc g j < pls g) {i e : Nat} (he : e ≤ pln g) : ∀ (n s : Nat) (h : Hd), slF g' i e n s h = slF g i e n s h
  | 0, _, _ => rfl
  | n + 1, s, h => by
    have e1 : slS g' i e s h = slS g i e s h := by
      unfold slS
      rw [v_slC hv h42 hp he, hv.2.1 12 (by omega) (by omega)]
    rw [slF, slF, e1, v_slF hv h42 hp he n]
theorem v_plF (hv : VE g g') (h42 : ∀ j, j < pln g → g' 42 j = g 42 j) (hp : ∀ j, j < pln g → plc g j < pls g) : ∀ (n j : Nat) (h : Hd), j + n ≤ pln g → plF g' n j h = plF g n j h
  | 0, _, _, _ => rfl
  | n + 1, j, h, hj => by
    have e1 : plS g' j h = plS g j h := by
      have := v_all hv h42 hp (j := j) (by omega)
      unfold plS
      rw [this.2.2.2.1, this.2.2.2.2, hv.2.1 13 (by omega) (by omega)]
    rw [plF, plF, e1, v_plF hv h42 hp n (j + 1) _ (by omega)]
theorem v_tr (hv : VE g g') (h42 : ∀ j, j < pln g → g' 42 j = g 42 j) (hp : ∀ j, j < pln g → plc g j < pls g) {i e : Nat} (hi : i < e) (he : e ≤ pln g) (h : Hd) : trF g' i e h = trF g i e h := by
  have e1 : ∀ h, lkF g' i e h = lkF g i e h := by
    intro h
    have : fnC g' i e = fnC g i e := by
      unfold fnC
      apply cnt_cong
      intro j a b
      rw [(v_all hv h42 hp (by omega)).2.1]
    unfold lkF
    rw [this, hv.2.1 14 (by omega) (by omega)]
  unfold trF
  rw [v_plF hv h42 hp _ _ _ (by omega), e1, v_slF hv h42 hp he, (v_all hv h42 hp (j := i) (by omega)).1, hv.2.1 15 (by omega) (by omega)]
theorem v_tkF (hv : VE g g') (hl : pln g' = pln g) (h42 : ∀ j, j < pln g → g' 42 j = g 42 j) (hp : ∀ j, j < pln g → plc g j < pls g) : ∀ (n i : Nat) (h : Hd), tkF g' n i h = tkF g n i h
  | 0, _, _ => rfl
  | n + 1, i, h => by
    rw [tkF, tkF, hl]
    split
    · next hi =>
      have hen := enT_le g hi
      rw [v_en hl h42 hi, v_tr hv h42 hp (by omega) (by omega), v_tkF hv hl h42 hp n]
    · rfl
theorem v_tk (hv : VE g g') (hl : pln g' = pln g) (h42 : ∀ j, j < pln g → g' 42 j = g 42 j) (hp : ∀ j, j < pln g → plc g j < pls g) : tkN g' = tkN g := by
  unfold tkN
  rw [hl, v_tkF hv hl h42 hp]
theorem v_gdF (hv : VE g g') (hl : pln g' = pln g) (h42 : ∀ j, j < pln g → g' 42 j = g 42 j) (hp : ∀ j, j < pln g → plc g j < pls g) : ∀ (n i c : Nat), i + n ≤ pln g → gdF g' n i c = gdF g n i c
  | 0, _, _, _ => rfl
  | n + 1, i, c, hi => by
    have eS : ∀ c, gdS g' i c = gdS g i c := by
      intro c
      have a1 := v_all hv h42 hp (j := i) (by omega)
      have a2 := v_all hv h42 hp (j := i - 1) (by omega)
      have e3 : alB (fun j => !ahB g' (plc g' j) (plc g' i)) (pln g - (i + 1)) (i + 1) = alB (fun j => !ahB g (plc g j) (plc g i)) (pln g - (i + 1)) (i + 1) := by
        apply alB_cong
        intro j a b
        rw [v_plc h42 (by omega), v_plc h42 (by omega), hv.2.2.2 _ _ (hp j (by omega)) (hp i (by omega))]
      unfold gdS
      rw [hl, a1.1, a2.1, a1.2.2.1, e3, show nzs g' = nzs g from hv.2.1 11 (by omega) (by omega)]
    rw [gdF, gdF, eS, v_bgn h42 (by omega), v_gdF hv hl h42 hp n _ _ (by omega)]
theorem v_gd (hv : VE g g') (hl : pln g' = pln g) (h42 : ∀ j, j < pln g → g' 42 j = g 42 j) (hp : ∀ j, j < pln g → plc g j < pls g) : gdB g' = gdB g := by
  unfold gdB
  rw [hl, v_gdF hv hl h42 hp _ _ _ (by omega), hv.1]
end VW
theorem VE.symm {g g' : GS} (h : VE g g') : VE g' g := ⟨h.1.symm, fun j a b => (h.2.1 j a b).symm, fun p hp => by
  have := h.2.2.1 p (by rw [← h.1]; exact hp)
  exact ⟨this.1.symm, this.2.1.symm, this.2.2.1.symm, this.2.2.2.1.symm, this.2.2.2.2.symm⟩, fun p q a b => (h.2.2.2 p q (by rw [← h.1]; exact a) (by rw [← h.1]; exact b)).symm⟩
theorem v_C {g g' : GS} (hv : VE g g') {c : Nat → Nat} (hc : vC g c) : gdB (gC g' c) = gdB (gC g c) ∧ tkN (gC g' c) = tkN (gC g c) := by
  have hv2 : VE (gC g c) (gC g' c) := ⟨hv.1, fun j a b => by
    show fs (g' 31) 16 (pls g') j = fs (g 31) 16 (pls g) j
    rw [fs_ne _ _ (by omega), fs_ne _ _ (by omega)]
    exact hv.2.1 j a b, hv.2.2.1, hv.2.2.2⟩
  have hl : pln (gC g' c) = pln (gC g c) := hv.1
  have hp : ∀ j, j < pln (gC g c) → plc (gC g c) j < pls (gC g c) := fun j hj => (hc.1 j hj).2
  exact ⟨v_gd hv2 hl (fun _ _ => rfl) hp, v_tk hv2 hl (fun _ _ => rfl) hp⟩
theorem v_vC {g g' : GS} (hv : VE g g') {c : Nat → Nat} (hc : vC g c) : vC g' c := by
  unfold vC at *
  rw [hv.1]
  exact hc
theorem BS.view {g g' : GS} (hv : VE g g') {l : Int32} {row : Nat → Int32} (h : BS g l row) : BS g' l row := by
  rcases h with ⟨h1, h2⟩ | ⟨c, h1, h2, h3, h4, h5⟩
  · refine Or.inl ⟨h1, fun c hc => ?_⟩
    have hc' := v_vC hv.symm hc
    rw [(v_C hv hc').1]
    exact h2 c hc'
  · refine Or.inr ⟨c, v_vC hv h1, ?_, ?_, fun j hj => h4 j (by rw [← hv.1]; exact hj), fun c' hc' hg => ?_⟩
    · rw [(v_C hv h1).1]; exact h2
    · rw [(v_C hv h1).2]; exact h3
    · have hc2 := v_vC hv.symm hc'
      rw [(v_C hv hc2).1] at hg
      rw [(v_C hv h1).2, (v_C hv hc2).2, hv.1]
      exact h5 c' hc2 hg
theorem KN.view {g g' : GS} {M M' : Mem} (hv : VE g g') (h : KN g M) (e1 : M' 31 28 = M 31 28) (e2 : M' 31 29 = M 31 29) (e3 : M' 47 = M 47) : KN g' M' := by
  unfold KN at *
  rw [e1, e2, e3]
  rcases h with h | ⟨h1, h2⟩
  · exact Or.inl h
  · exact Or.inr ⟨h1, h2.view hv⟩
theorem VE.rf {g : GS} : VE g g := ⟨rfl, fun _ _ _ => rfl, fun _ _ => ⟨rfl, rfl, rfl, rfl, rfl⟩, fun _ _ _ _ => rfl⟩
theorem VE.pl {g : GS} {x y k : Nat} : VE g (gP g x y k) := by
  refine ⟨rfl, fun _ _ _ => rfl, fun p hp => ?_, fun p q hp hq => gP_ah hp hq⟩
  have e : (gP g x y k) 38 p = g 38 p := fs_ne _ _ (by omega)
  refine ⟨fs_ne _ _ (by omega), fs_ne _ _ (by omega), ?_, ?_, ?_⟩ <;> rw [e] <;> rfl
