/-! The ticks of a tour, in short. -/
def nzP (g : GS) (p : Nat) : Nat := g 34 (g 38 p)
def sxP (g : GS) (p : Nat) : Nat := 20 * slO g (g 38 p)
def fiP (g : GS) (p : Nat) : Nat := g 35 (g 38 p)
def enF (g : GS) (t : Nat → Nat) : Nat → Nat
  | 0 => 199
  | k + 1 => if sxP g (t k) < enF g t k then sxP g (t k) else enF g t k
def hiF (g : GS) (t : Nat → Nat) : Nat → Nat
  | 0 => 0
  | k + 1 => if hiF g t k < sxP g (t k) then sxP g (t k) else hiF g t k
def fnF (g : GS) (t : Nat → Nat) : Nat → Nat
  | 0 => 0
  | k + 1 => fnF g t k + fiP g (t k)
def isF (g : GS) (t : Nat → Nat) : Nat → Nat
  | 0 => 0
  | 1 => 0
  | k + 2 => isF g t (k + 1) + mv (g 36 (t k)) (g 37 (t k)) (g 36 (t (k + 1))) (g 37 (t (k + 1)))
def lvF (g : GS) (t : Nat → Nat) (m : Nat) : Nat := if fnF g t m = 0 then hiF g t m else 199
def fxF (g : GS) (t : Nat → Nat) (m : Nat) : Nat := lvF g t m - enF g t m + fnF g t m * g 31 14 + m * (g 31 12 + g 31 13)
def tcF (g : GS) (hx hy hz : Nat) (t : Nat → Nat) (m : Nat) : Nat := (if hz = nzP g (t 0) then 0 else g 31 15) + mv hx hy (enF g t m) 0 + fxF g t m + mv (lvF g t m) 0 (g 36 (t 0)) (g 37 (t 0)) + isF g t m
theorem enF_le (g : GS) (t : Nat → Nat) : ∀ m k, k < m → enF g t m ≤ sxP g (t k)
  | 0, k, h => by omega
  | m + 1, k, h => by
    rw [enF]
    by_cases e : k = m
    · subst e; split <;> omega
    · have := enF_le g t m k (by omega)
      split <;> omega
theorem enF_or (g : GS) (t : Nat → Nat) : ∀ m, enF g t m = 199 ∨ ∃ k, k < m ∧ enF g t m = sxP g (t k)
  | 0 => Or.inl rfl
  | m + 1 => by
    rw [enF]
    split
    · exact Or.inr ⟨m, by omega, rfl⟩
    · rcases enF_or g t m with h | ⟨k, h1, h2⟩
      · exact Or.inl h
      · exact Or.inr ⟨k, by omega, h2⟩
theorem hiF_ge (g : GS) (t : Nat → Nat) : ∀ m k, k < m → sxP g (t k) ≤ hiF g t m
  | 0, k, h => by omega
  | m + 1, k, h => by
    rw [hiF]
    by_cases e : k = m
    · subst e; split <;> omega
    · have := hiF_ge g t m k (by omega)
      split <;> omega
theorem hiF_or (g : GS) (t : Nat → Nat) : ∀ m, hiF g t m = 0 ∨ ∃ k, k < m ∧ hiF g t m = sxP g (t k)
  | 0 => Or.inl rfl
  | m + 1 => by
    rw [hiF]
    split
    · exact Or.inr ⟨m, by omega, rfl⟩
    · rcases hiF_or g t m with h | ⟨k, h1, h2⟩
      · exact Or.inl h
      · exact Or.inr ⟨k, by omega, h2⟩
theorem enF_ex {g : GS} {t : Nat → Nat} {m : Nat} (hm : 1 ≤ m) (h : ∀ k, k < m → sxP g (t k) ≤ 140) : (∃ k, k < m ∧ enF g t m = sxP g (t k)) ∧ ∃ k, k < m ∧ hiF g t m = sxP g (t k) := by
  constructor
  · rcases enF_or g t m with q | q
    · have := enF_le g t m 0 (by omega)
      have := h 0 (by omega)
      omega
    · exact q
  · rcases hiF_or g t m with q | q
    · have := hiF_ge g t m 0 (by omega)
      exact ⟨0, by omega, by omega⟩
    · exact q
theorem plF_last (g : GS) : ∀ n j h, plF g (n + 1) j h = plS g (j + n) (plF g n j h)
  | 0, j, h => rfl
  | n + 1, j, h => by
    rw [plF, plF_last g n (j + 1), plF, show j + 1 + n = j + (n + 1) by omega]
theorem slF_last (g : GS) (i e : Nat) : ∀ n s h, slF g i e (n + 1) s h = slS g i e (s + n) (slF g i e n s h)
  | 0, s, h => rfl
  | n + 1, s, h => by
    rw [slF, slF_last g i e n (s + 1), slF, show s + 1 + n = s + (n + 1) by omega]
theorem plF_eq (g : GS) (i : Nat) (h : Hd) : ∀ k, plF g (k + 1) i h = (g 36 (plc g (i + k)), g 37 (plc g (i + k)), h.2.2.1, h.2.2.2 + mv h.1 h.2.1 (g 36 (plc g i)) (g 37 (plc g i)) + isF g (fun k => plc g (i + k)) (k + 1) + (k + 1) * g 31 13)
  | 0 => by
    show plS g i h = _
    unfold plS hAdd hGo
    show (_, _, _, _) = (_, _, _, _)
    simp only [Nat.add_zero, isF, Nat.zero_add, Nat.one_mul]
  | k + 1 => by
    rw [plF_last, plF_eq g i h k]
    unfold plS hAdd hGo
    show (_, _, _, _) = (_, _, _, _)
    simp only [isF]
    rw [show i + (k + 1) = i + k + 1 by omega, Nat.succ_mul (k + 1)]
    congr 3
    omega
theorem mv_x {a b : Nat} (h : a ≤ b) : mv a 0 b 0 = b - a := by
  unfold mv dst
  have e0 : (if (0 : Nat) < 0 then 0 - 0 else 0 - 0) = 0 := rfl
  rw [e0, if_neg (by omega)]
  split <;> omega
/-- how many of a tour lie in a slot below s -/
def slB (g : GS) (i e s : Nat) : Nat := cnt (fun j => decide (slO g (kdA g j) < s)) (e - i) i
theorem cnt_add {P R S : Nat → Bool} : ∀ n i, (∀ j, i ≤ j → j < i + n → (if S j then 1 else 0 : Nat) = (if P j then 1 else 0) + (if R j then 1 else 0)) → cnt S n i = cnt P n i + cnt R n i
  | 0, _, _ => rfl
  | n + 1, i, h => by
    rw [cnt_last, cnt_last, cnt_last, cnt_add n i (fun j a b => h j a (by omega)), h (i + n) (by omega) (by omega)]
    omega
theorem slB_s (g : GS) (i e s : Nat) : slB g i e (s + 1) = slB g i e s + slC g i e s := by
  unfold slB slC
  refine cnt_add _ _ (fun j _ _ => ?_)
  by_cases h1 : slO g (kdA g j) < s
  · have e1 : decide (slO g (kdA g j) < s + 1) = true := by simp; omega
    have e2 : (slO g (kdA g j) == s) = false := by simp; omega
    have e3 : decide (slO g (kdA g j) < s) = true := by simp; omega
    rw [e1, e2, e3]; rfl
  · by_cases h2 : slO g (kdA g j) = s
    · have e1 : decide (slO g (kdA g j) < s + 1) = true := by simp; omega
      have e2 : (slO g (kdA g j) == s) = true := by simp; omega
      have e3 : decide (slO g (kdA g j) < s) = false := by simp; omega
      rw [e1, e2, e3]; rfl
    · have e1 : decide (slO g (kdA g j) < s + 1) = false := by simp; omega
      have e2 : (slO g (kdA g j) == s) = false := by simp; omega
      have e3 : decide (slO g (kdA g j) < s) = false := by simp; omega
      rw [e1, e2, e3]; rfl
theorem slF_eq (g : GS) (i e : Nat) (h : Hd) : ∀ s, (slB g i e s = 0 ∧ slF g i e s 0 h = h) ∨ ∃ lo hi, lo ≤ hi ∧ hi < s ∧ 0 < slC g i e lo ∧ 0 < slC g i e hi ∧ (∀ s', s' < lo → slC g i e s' = 0) ∧ (∀ s', hi < s' → s' < s → slC g i e s' = 0) ∧ 0 < slB g i e s ∧ slF g i e s 0 h = (20 * hi, 0, h.2.2.1, h.2.2.2 + mv h.1 h.2.1 (20 * lo) 0 + 20 * (hi - lo) + slB g i e s * g 31 12)
  | 0 => Or.inl ⟨by
      unfold slB
      apply Classical.byContradiction
      intro hn
      have := cnt_pos.mp (Nat.pos_of_ne_zero hn)
      obtain ⟨j, -, -, hj⟩ := this
      simp at hj, rfl⟩
  | s + 1 => by
    rw [slF_last, Nat.zero_add, slB_s]
    by_cases q : 0 < slC g i e s
    · right
      rcases slF_eq g i e h s with ⟨h1, h2⟩ | ⟨lo, hi, a1, a2, a3, a4, a5, a6, a7, a8⟩
      · refine ⟨s, s, by omega, by omega, q, q, fun s' hs' => ?_, fun s' _ _ => by omega, by omega, ?_⟩
        · apply Classical.byContradiction
          intro hn
          obtain ⟨j, j1, j2, j3⟩ := cnt_pos.mp (Nat.pos_of_ne_zero hn)
          have : 0 < slB g i e s := cnt_pos.mpr ⟨j, j1, j2, by
            rw [beq_iff_eq] at j3
            rw [decide_eq_true_eq]; omega⟩
          omega
        · rw [h2]
          unfold slS hAdd hGo
          rw [if_pos q]
          show (_, _, _, _) = (_, _, _, _)
          rw [h1, Nat.sub_self, Nat.mul_zero, Nat.add_zero, Nat.zero_add]
      · refine ⟨lo, s, by omega, by omega, a3, q, a5, fun s' _ _ => by omega, by omega, ?_⟩
        rw [a8]
        unfold slS hAdd hGo
        rw [if_pos q]
        show (_, _, _, _) = (_, _, _, _)
        have := mv_x (a := 20 * hi) (b := 20 * s) (by omega)
        simp only [this, Nat.add_mul]
        congr 3
        omega
    · have q0 : slC g i e s = 0 := by omega
      have e0 : ∀ x, slS g i e s x = x := fun x => if_neg q
      rw [e0, q0, Nat.add_zero]
      rcases slF_eq g i e h s with ⟨h1, h2⟩ | ⟨lo, hi, a1, a2, a3, a4, a5, a6, a7, a8⟩
      · exact Or.inl ⟨h1, h2⟩
      · refine Or.inr ⟨lo, hi, a1, by omega, a3, a4, a5, fun s' b1 b2 => ?_, a7, a8⟩
        by_cases z : s' = s
        · rw [z]; exact q0
        · exact a6 s' b1 (by omega)
theorem cnt_all {P : Nat → Bool} : ∀ n i, (∀ j, i ≤ j → j < i + n → P j = true) → cnt P n i = n
  | 0, _, _ => rfl
  | n + 1, i, h => by rw [cnt_last, cnt_all n i (fun j a b => h j a (by omega)), if_pos (h (i + n) (by omega) (by omega))]
theorem fnF_eq (g : GS) (hf : ∀ k, k < 8 → g 35 k ≤ 1) (i : Nat) : ∀ m, (∀ j, i ≤ j → j < i + m → kdA g j < 8) → cnt (fun j => g 35 (kdA g j) == 1) m i = fnF g (fun k => plc g (i + k)) m
  | 0, _ => rfl
  | m + 1, h => by
    rw [cnt_last, fnF, fnF_eq g hf i m (fun j a b => h j a (by omega))]
    have h1 : g 35 (kdA g (i + m)) ≤ 1 := hf _ (h (i + m) (by omega) (by omega))
    have h2 : fiP g (plc g (i + m)) = g 35 (kdA g (i + m)) := rfl
    rw [h2]
    rcases (show g 35 (kdA g (i + m)) = 0 ∨ g 35 (kdA g (i + m)) = 1 by omega) with z | z <;> rw [z] <;> rfl
/-- a tour in a plan -/
theorem trF_eq {g : GS} {i m : Nat} (hf : ∀ k, k < 8 → g 35 k ≤ 1) (hk : ∀ j, i ≤ j → j < i + (m + 1) → kdA g j < 8 ∧ slO g (kdA g j) < 8) (h : Hd) : trF g i (i + (m + 1)) h = (g 36 (plc g (i + m)), g 37 (plc g (i + m)), nzA g i, h.2.2.2 + tcF g h.1 h.2.1 h.2.2.1 (fun k => plc g (i + k)) (m + 1)) := by
  unfold trF
  rw [show i + (m + 1) - i = m + 1 by omega, plF_eq]
  -- the nozzle
  have hb : hBear h (nzA g i) (g 31 15) = (h.1, h.2.1, nzA g i, h.2.2.2 + (if h.2.2.1 = nzA g i then 0 else g 31 15)) := by
    unfold hBear
    split
    · next c => show (h.1, h.2.1, h.2.2.1, h.2.2.2) = _; rw [c]; rfl
    · rfl
  rw [hb]
  generalize hu : (if h.2.2.1 = nzA g i then 0 else g 31 15) = u
  -- the slots
  have hB8 : slB g i (i + (m + 1)) 8 = m + 1 := by
    unfold slB
    rw [show i + (m + 1) - i = m + 1 by omega]
    refine cnt_all _ _ (fun j a b => ?_)
    rw [decide_eq_true_eq]
    exact (hk j a b).2
  have hsx : ∀ k, k < m + 1 → sxP g (plc g (i + k)) ≤ 140 := fun k hk' => by
    have : slO g (g 38 (plc g (i + k))) < 8 := (hk (i + k) (by omega) (by omega)).2
    unfold sxP
    omega
  have hC : ∀ s, 0 < slC g i (i + (m + 1)) s ↔ ∃ k, k < m + 1 ∧ sxP g (plc g (i + k)) = 20 * s := by
    intro s
    unfold slC
    rw [cnt_pos]
    constructor
    · rintro ⟨j, j1, j2, j3⟩
      rw [beq_iff_eq] at j3
      refine ⟨j - i, by omega, ?_⟩
      rw [show i + (j - i) = j by omega]
      unfold sxP
      rw [show g 38 (plc g j) = kdA g j from rfl, j3]
    · rintro ⟨k, k1, k2⟩
      refine ⟨i + k, by omega, by omega, ?_⟩
      unfold sxP at k2
      rw [beq_iff_eq]
      show slO g (g 38 (plc g (i + k))) = s
      omega
  obtain ⟨⟨ke, ke1, ke2⟩, ⟨kh, kh1, kh2⟩⟩ := enF_ex (g := g) (t := fun k => plc g (i + k)) (m := m + 1) (by omega) hsx
  rcases slF_eq g i (i + (m + 1)) (h.1, h.2.1, nzA g i, h.2.2.2 + u) 8 with ⟨h1, -⟩ | ⟨lo, hi, a1, a2, a3, a4, a5, a6, a7, a8⟩
  · omega
  rw [a8, hB8]
  have elo : enF g (fun k => plc g (i + k)) (m + 1) = 20 * lo := by
    obtain ⟨k, k1, k2⟩ := (hC lo).mp a3
    have l1 := enF_le g (fun k => plc g (i + k)) (m + 1) k k1
    simp only [k2] at l1
    unfold sxP at ke2
    have l2 : ¬ slO g (g 38 (plc g (i + ke))) < lo := fun z => by
      have := a5 _ z
      have : 0 < slC g i (i + (m + 1)) (slO g (g 38 (plc g (i + ke)))) := (hC _).mpr ⟨ke, ke1, rfl⟩
      omega
    omega
  have ehi : hiF g (fun k => plc g (i + k)) (m + 1) = 20 * hi := by
    obtain ⟨k, k1, k2⟩ := (hC hi).mp a4
    have l1 := hiF_ge g (fun k => plc g (i + k)) (m + 1) k k1
    simp only [k2] at l1
    have l3 := hsx kh kh1
    unfold sxP at kh2 l3
    have l2 : ¬ hi < slO g (g 38 (plc g (i + kh))) := fun z => by
      have := a6 _ z (by omega)
      have : 0 < slC g i (i + (m + 1)) (slO g (g 38 (plc g (i + kh)))) := (hC _).mpr ⟨kh, kh1, rfl⟩
      omega
    omega
  have hfn : fnC g i (i + (m + 1)) = fnF g (fun k => plc g (i + k)) (m + 1) := by
    unfold fnC
    rw [show i + (m + 1) - i = m + 1 by omega]
    exact fnF_eq g hf i (m + 1) (fun j a b => (hk j a b).1)
  have hnz : nzP g ((fun k => plc g (i + k)) 0) = nzA g i := rfl
  unfold tcF fxF lvF
  rw [hnz, hu, elo, ehi]
  show (_, _, _, _) = (_, _, _, _)
  unfold lkF
  rw [hfn]
  by_cases z : fnF g (fun k => plc g (i + k)) (m + 1) = 0
  · rw [if_neg (by omega), if_pos z, z]
    simp only [Nat.add_zero, Nat.zero_mul, Nat.mul_add]
    congr 3
    omega
  · rw [if_pos (by omega), if_neg z]
    unfold hAdd hGo
    have e1 := mv_x (a := 20 * hi) (b := 199) (by omega)
    simp only [e1, Nat.add_zero, Nat.mul_add]
    congr 3
    omega
