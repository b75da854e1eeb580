/-! A run: the words. -/
def fs (f : Nat → Nat) (k v : Nat) : Nat → Nat := fun j => if j = k then v else f j
theorem fs_eq (f : Nat → Nat) (k v : Nat) : fs f k v k = v := if_pos rfl
theorem fs_ne (f : Nat → Nat) {k j : Nat} (v : Nat) (h : j ≠ k) : fs f k v j = f j := if_neg h
def sG (g : GS) (k : Nat) (f : Nat → Nat) : GS := fun k' => if k' = k then f else g k'
/-- states of places, parts of slots, head, takes, misses -/
abbrev RS : Type := (Nat → Nat) × (Nat → Nat) × Hd × Nat × Nat
def lmB (g : GS) (st : Nat → Nat) (p : Nat) : Bool := decide (0 < cnt (fun q => ltB g p q && st q == 2) (pls g) 0)
def loF (g : GS) : Nat → Nat → (Nat → Nat) → (Nat → Nat)
  | 0, _, st => st
  | n + 1, j, st => loF g n (j + 1) (if lmB g st (plc g j) then fs st (plc g j) 2 else st)
def wnC (g : GS) (st : Nat → Nat) (i e : Nat) : Nat := cnt (fun j => st (plc g j) == 0) (e - i) i
def usN (g : GS) (st gv : Nat → Nat) (i j s : Nat) : Nat := cnt (fun j' => st (plc g j') == 0 && gv (plc g j') == s) (j - i) i
def swP (g : GS) (pa u : Nat → Nat) (k : Nat) : Nat := fst (fun s => g 40 s == k + 1 && decide (u s < pa s)) 8 0
def giF (g : GS) (st pa : Nat → Nat) (i : Nat) : Nat → Nat → (Nat → Nat) → Nat × (Nat → Nat)
  | 0, _, gv => (0, gv)
  | n + 1, j, gv => if st (plc g j) = 0 then (if swP g pa (usN g st gv i j) (kdA g j) < 8 then giF g st pa i n (j + 1) (fs gv (plc g j) (swP g pa (usN g st gv i j) (kdA g j))) else (plc g j + 1, gv)) else giF g st pa i n (j + 1) gv
abbrev TP : Type := (Nat → Nat) × Hd × Nat × Nat
def tpF (g : GS) (s : Nat) : Nat → TP → Bool × TP
  | 0, r => (false, r)
  | n + 1, r => if r.1 s = 0 then (false, r) else if 200 < r.2.2.1 + 1 ∨ g 43 (r.2.2.1 + 1) = 0 then (true, (fs r.1 s (r.1 s - 1), hAdd r.2.1 (g 31 12), r.2.2.1 + 1, r.2.2.2)) else tpF g s n (fs r.1 s (r.1 s - 1), hAdd r.2.1 (g 31 12), r.2.2.1 + 1, r.2.2.2 + 1)
def tpS (g : GS) (s p : Nat) (rs : RS) : RS := (if (tpF g s (g 31 19 + 1) rs.2).1 then rs.1 else fs rs.1 p 2, (tpF g s (g 31 19 + 1) rs.2).2)
def toF (g : GS) (gv : Nat → Nat) (s : Nat) : Nat → Nat → RS → RS
  | 0, _, rs => rs
  | n + 1, j, rs => toF g gv s n (j + 1) (if rs.1 (plc g j) = 0 ∧ gv (plc g j) = s then tpS g s (plc g j) rs else rs)
def rsH (rs : RS) (h : Hd) : RS := (rs.1, rs.2.1, h, rs.2.2.2)
def taF (g : GS) (gv u : Nat → Nat) (i e : Nat) : Nat → Nat → RS → RS
  | 0, _, rs => rs
  | n + 1, s, rs => taF g gv u i e n (s + 1) (if 0 < u s then toF g gv s (e - i) i (rsH rs (hGo rs.2.2.1 (20 * s) 0)) else rs)
def lpC (g : GS) (st : Nat → Nat) (i e : Nat) : Nat := cnt (fun j => st (plc g j) == 0 && g 35 (kdA g j) == 1) (e - i) i
def lpF (g : GS) (i e : Nat) (rs : RS) : RS := if 0 < lpC g rs.1 i e then rsH rs (hAdd (hGo rs.2.2.1 199 0) (lpC g rs.1 i e * g 31 14)) else rs
def seS (g : GS) (p : Nat) (rs : RS) : RS := if rs.1 p = 0 then (if lmB g rs.1 p then (fs rs.1 p 2, rs.2) else (fs rs.1 p 1, (rsH rs (hAdd (hGo rs.2.2.1 (g 36 p) (g 37 p)) (g 31 13))).2)) else rs
def seF (g : GS) : Nat → Nat → RS → RS
  | 0, _, rs => rs
  | n + 1, j, rs => seF g n (j + 1) (seS g (plc g j) rs)
/-- a tour: the place for which it stops, one more (0: it does not), and what it leaves -/
def toR (g : GS) (i e : Nat) (rs : RS) : Nat × RS :=
  if 0 < wnC g (loF g (e - i) i rs.1) i e then
    (if (giF g (loF g (e - i) i rs.1) rs.2.1 i (e - i) i (fun _ => 0)).1 = 0 then
      (0, seF g (e - i) i (lpF g i e (taF g (giF g (loF g (e - i) i rs.1) rs.2.1 i (e - i) i (fun _ => 0)).2 (usN g (loF g (e - i) i rs.1) (giF g (loF g (e - i) i rs.1) rs.2.1 i (e - i) i (fun _ => 0)).2 i e) i e 8 0 (loF g (e - i) i rs.1, rs.2.1, hBear rs.2.2.1 (nzA g i) (g 31 15), rs.2.2.2))))
    else ((giF g (loF g (e - i) i rs.1) rs.2.1 i (e - i) i (fun _ => 0)).1, (loF g (e - i) i rs.1, rs.2)))
  else (0, (loF g (e - i) i rs.1, rs.2))
/-- tours from index i on: stop, next, tours, state -/
def goR (g : GS) : Nat → Nat → Nat → RS → Nat × Nat × Nat × RS
  | 0, i, t, rs => (0, i, t, rs)
  | f + 1, i, t, rs => if i < pln g then (if (toR g i (enT g i) rs).1 = 0 then goR g f (enT g i) (t + 1) (toR g i (enT g i) rs).2 else ((toR g i (enT g i) rs).1, i, t, (toR g i (enT g i) rs).2)) else (0, i, t, rs)
/-- bounds that a run keeps -/
def rsB (rs : RS) : Prop := (∀ p, rs.1 p ≤ 2) ∧ (∀ s, s < 8 → rs.2.1 s ≤ 100) ∧ hB rs.2.2.1 ∧ rs.2.2.2.1 < 2 ^ 20
theorem lm_iff {g : GS} {st : Nat → Nat} {p : Nat} : lmB g st p = true ↔ ∃ q, q < pls g ∧ ltB g p q = true ∧ st q = 2 := by
  unfold lmB
  rw [decide_eq_true_eq, cnt_pos]
  constructor
  · rintro ⟨q, h1, h2, h3⟩
    simp only [Bool.and_eq_true, beq_iff_eq] at h3
    exact ⟨q, by omega, h3⟩
  · rintro ⟨q, h1, h2, h3⟩
    exact ⟨q, by omega, by omega, by simp [h2, h3]⟩
/-- what a step of the takes leaves alone: bounds -/
theorem tpF_b (g : GS) (s : Nat) : ∀ (n : Nat) (r : TP), (∀ t, t < 8 → r.1 t ≤ 100) → hB r.2.1 → (∀ t, t < 8 → (tpF g s n r).2.1 t ≤ 100) ∧ hB (tpF g s n r).2.2.1 ∧ (tpF g s n r).2.2.2.1 ≤ r.2.2.1 + n
  | 0, r, h1, h2 => ⟨h1, h2, Nat.le_refl _⟩
  | n + 1, r, h1, h2 => by
    have h3 : ∀ t, t < 8 → fs r.1 s (r.1 s - 1) t ≤ 100 := by
      intro t ht
      unfold fs
      split
      · next e => have := h1 t ht; rw [e] at this; omega
      · exact h1 t ht
    rw [tpF]
    split
    · exact ⟨h1, h2, by show r.2.2.1 ≤ _; omega⟩
    · split
      · exact ⟨h3, hB_add h2, by show r.2.2.1 + 1 ≤ _; omega⟩
      · have ih := tpF_b g s n (fs r.1 s (r.1 s - 1), hAdd r.2.1 (g 31 12), r.2.2.1 + 1, r.2.2.2 + 1) h3 (hB_add h2)
        refine ⟨ih.1, ih.2.1, ?_⟩
        have := ih.2.2
        simp only at this
        omega
theorem tpS_b {g : GS} {s p m : Nat} {rs : RS} (h19 : g 31 19 ≤ 3) (h : rsB rs) (hm : rs.2.2.2.1 + 4 ≤ m) (hm2 : m < 2 ^ 20) : rsB (tpS g s p rs) ∧ (tpS g s p rs).2.2.2.1 ≤ rs.2.2.2.1 + 4 := by
  have hb := tpF_b g s (g 31 19 + 1) rs.2 h.2.1 h.2.2.1
  refine ⟨⟨?_, hb.1, hb.2.1, ?_⟩, ?_⟩
  · intro q
    unfold tpS
    dsimp only
    split
    · exact h.1 q
    · unfold fs
      split
      · omega
      · exact h.1 q
  · show (tpF g s (g 31 19 + 1) rs.2).2.2.2.1 < _
    have := hb.2.2
    omega
  · show (tpF g s (g 31 19 + 1) rs.2).2.2.2.1 ≤ _
    have := hb.2.2
    omega
theorem toF_b {g : GS} (h19 : g 31 19 ≤ 3) (gv : Nat → Nat) (s : Nat) : ∀ (n j : Nat) (rs : RS), rsB rs → rs.2.2.2.1 + 4 * n < 2 ^ 20 → rsB (toF g gv s n j rs) ∧ (toF g gv s n j rs).2.2.2.1 ≤ rs.2.2.2.1 + 4 * n
  | 0, j, rs, h, _ => ⟨h, Nat.le_refl _⟩
  | n + 1, j, rs, h, hm => by
    rw [toF]
    split
    · have h1 := tpS_b (g := g) (s := s) (p := plc g j) (m := rs.2.2.2.1 + 4) h19 h (Nat.le_refl _) (by omega)
      have ih := toF_b h19 gv s n (j + 1) _ h1.1 (by have := h1.2; omega)
      exact ⟨ih.1, by have := ih.2; have := h1.2; omega⟩
    · have ih := toF_b h19 gv s n (j + 1) rs h (by omega)
      exact ⟨ih.1, by have := ih.2; omega⟩
theorem taF_b {g : GS} (h19 : g 31 19 ≤ 3) (gv u : Nat → Nat) (i e : Nat) : ∀ (n s : Nat) (rs : RS), s + n ≤ 8 → rsB rs → rs.2.2.2.1 + n * (4 * (e - i)) < 2 ^ 20 → rsB (taF g gv u i e n s rs) ∧ (taF g gv u i e n s rs).2.2.2.1 ≤ rs.2.2.2.1 + n * (4 * (e - i))
  | 0, s, rs, _, h, _ => ⟨h, by rw [taF]; omega⟩
  | n + 1, s, rs, hs, h, hm => by
    rw [Nat.succ_mul] at hm
    rw [taF]
    split
    · have h0 : rsB (rsH rs (hGo rs.2.2.1 (20 * s) 0)) := ⟨h.1, h.2.1, hB_go h.2.2.1 (by omega) (by omega), h.2.2.2⟩
      have h1 := toF_b h19 gv s (e - i) i (rsH rs (hGo rs.2.2.1 (20 * s) 0)) h0 (by show rs.2.2.2.1 + _ < _; omega)
      have h2 : (toF g gv s (e - i) i (rsH rs (hGo rs.2.2.1 (20 * s) 0))).2.2.2.1 ≤ rs.2.2.2.1 + 4 * (e - i) := h1.2
      have ih := taF_b h19 gv u i e n (s + 1) _ (by omega) h1.1 (by omega)
      exact ⟨ih.1, by rw [Nat.succ_mul n (4 * (e - i))]; have := ih.2; omega⟩
    · have ih := taF_b h19 gv u i e n (s + 1) rs (by omega) h (by omega)
      exact ⟨ih.1, by rw [Nat.succ_mul n (4 * (e - i))]; have := ih.2; omega⟩
theorem lpF_b {g : GS} {i e : Nat} {rs : RS} (h : rsB rs) : rsB (lpF g i e rs) ∧ (lpF g i e rs).2.2.2 = rs.2.2.2 ∧ (lpF g i e rs).1 = rs.1 := by
  unfold lpF
  split
  · exact ⟨⟨h.1, h.2.1, hB_add (hB_go h.2.2.1 (by omega) (by omega)), h.2.2.2⟩, rfl, rfl⟩
  · exact ⟨h, rfl, rfl⟩
theorem seS_b {g : GS} {p : Nat} {rs : RS} (hx : g 36 p ≤ 199 ∧ g 37 p ≤ 199) (h : rsB rs) : rsB (seS g p rs) ∧ (seS g p rs).2.2.2 = rs.2.2.2 := by
  unfold seS
  split
  · split
    · refine ⟨⟨fun q => ?_, h.2.1, h.2.2.1, h.2.2.2⟩, rfl⟩
      show fs rs.1 p 2 q ≤ 2
      unfold fs
      split
      · omega
      · exact h.1 q
    · refine ⟨⟨fun q => ?_, h.2.1, hB_add (hB_go h.2.2.1 hx.1 hx.2), h.2.2.2⟩, rfl⟩
      show fs rs.1 p 1 q ≤ 2
      unfold fs
      split
      · omega
      · exact h.1 q
  · exact ⟨h, rfl⟩
theorem seF_b {g : GS} (hW : Wk g) : ∀ (n j : Nat) (rs : RS), j + n ≤ pln g → rsB rs → rsB (seF g n j rs) ∧ (seF g n j rs).2.2.2 = rs.2.2.2
  | 0, j, rs, _, h => ⟨h, rfl⟩
  | n + 1, j, rs, hj, h => by
    have hp := (hW.2.2.2.2.2.2.2.2 j (by omega)).2
    have h10 := hW.1
    have hx := hW.2.2.1 (plc g j) (by omega)
    have h1 := seS_b ⟨hx.1, hx.2.1⟩ h
    have ih := seF_b hW n (j + 1) _ (by omega) h1.1
    rw [seF]
    exact ⟨ih.1, by rw [ih.2, h1.2]⟩
theorem loF_le {g : GS} : ∀ (n j : Nat) (st : Nat → Nat), (∀ p, st p ≤ 2) → ∀ p, loF g n j st p ≤ 2
  | 0, j, st, h, p => h p
  | n + 1, j, st, h, p => by
    rw [loF]
    refine loF_le n (j + 1) _ (fun q => ?_) p
    split
    · unfold fs
      split
      · omega
      · exact h q
    · exact h q
theorem toR_b {g : GS} (hW : Wk g) (h19 : g 31 19 ≤ 3) {i e : Nat} (hie : i < e) (he : e ≤ pln g) {rs : RS} (h : rsB rs) (hm : rs.2.2.2.1 + 320 < 2 ^ 20) : rsB (toR g i e rs).2 ∧ (toR g i e rs).2.2.2.2.1 ≤ rs.2.2.2.1 + 320 := by
  have hn := hW.2.1
  have hl := loF_le (g := g) (e - i) i rs.1 h.1
  have h0 : rsB (loF g (e - i) i rs.1, rs.2) := ⟨hl, h.2.1, h.2.2.1, h.2.2.2⟩
  have hnz := (hW.2.2.2.1 _ (hW.kd (i := i) (by omega))).2.2.1
  unfold toR
  split
  · split
    · have h1 : rsB (loF g (e - i) i rs.1, rs.2.1, hBear rs.2.2.1 (nzA g i) (g 31 15), rs.2.2.2) := ⟨hl, h.2.1, hB_bear h.2.2.1 hnz, h.2.2.2⟩
      have hmul : 8 * (4 * (e - i)) ≤ 320 := by omega
      have h2 := taF_b h19 (giF g (loF g (e - i) i rs.1) rs.2.1 i (e - i) i (fun _ => 0)).2 (usN g (loF g (e - i) i rs.1) (giF g (loF g (e - i) i rs.1) rs.2.1 i (e - i) i (fun _ => 0)).2 i e) i e 8 0 _ (by omega) h1 (by show rs.2.2.2.1 + _ < _; omega)
      have h3 := lpF_b (g := g) (i := i) (e := e) h2.1
      have h4 := seF_b hW (e - i) i _ (by omega) h3.1
      refine ⟨h4.1, ?_⟩
      show (seF g (e - i) i _).2.2.2.1 ≤ _
      rw [h4.2, h3.2.1]
      have h5 := h2.2
      have h6 : ((loF g (e - i) i rs.1, rs.2.1, hBear rs.2.2.1 (nzA g i) (g 31 15), rs.2.2.2) : RS).2.2.2.1 = rs.2.2.2.1 := rfl
      omega
    · exact ⟨h0, by show rs.2.2.2.1 ≤ _; omega⟩
  · exact ⟨h0, by show rs.2.2.2.1 ≤ _; omega⟩
