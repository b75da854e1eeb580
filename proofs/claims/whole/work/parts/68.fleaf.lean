/-! The desk's finder: its small methods. -/
def enS (g : GS) (T : Nat) : Nat → Nat
  | 0 => 199
  | p + 1 => if T.testBit p = true then (if sxP g p < enS g T p then sxP g p else enS g T p) else enS g T p
def hiS (g : GS) (T : Nat) : Nat → Nat
  | 0 => 0
  | p + 1 => if T.testBit p = true then (if hiS g T p < sxP g p then sxP g p else hiS g T p) else hiS g T p
def fnS (g : GS) (T : Nat) : Nat → Nat
  | 0 => 0
  | p + 1 => if T.testBit p = true then fnS g T p + fiP g p else fnS g T p
theorem S_below (g : GS) {T p : Nat} : ∀ n, n ≤ p → enS g (T ||| 2 ^ p) n = enS g T n ∧ hiS g (T ||| 2 ^ p) n = hiS g T n ∧ fnS g (T ||| 2 ^ p) n = fnS g T n
  | 0, _ => ⟨rfl, rfl, rfl⟩
  | n + 1, h => by
    obtain ⟨h1, h2, h3⟩ := S_below g (T := T) (p := p) n (by omega)
    have e : (T ||| 2 ^ p).testBit n = T.testBit n := by
      rw [or_testBit]
      have : decide (n = p) = false := by simp; omega
      rw [this, Bool.or_false]
    rw [enS, hiS, fnS, enS, hiS, fnS, e, h1, h2, h3]
    exact ⟨rfl, rfl, rfl⟩
theorem S_or (g : GS) {T p : Nat} (hT : T.testBit p = false) : ∀ n, p < n → enS g (T ||| 2 ^ p) n = (if sxP g p < enS g T n then sxP g p else enS g T n) ∧ hiS g (T ||| 2 ^ p) n = (if hiS g T n < sxP g p then sxP g p else hiS g T n) ∧ fnS g (T ||| 2 ^ p) n = fnS g T n + fiP g p
  | 0, h => by omega
  | n + 1, h => by
    by_cases e : n = p
    · subst e
      obtain ⟨h1, h2, h3⟩ := S_below g (T := T) (p := n) n (by omega)
      have e1 : (T ||| 2 ^ n).testBit n = true := by rw [or_testBit]; simp
      rw [enS, hiS, fnS, enS, hiS, fnS, e1, hT, h1, h2, h3]
      exact ⟨rfl, rfl, rfl⟩
    · obtain ⟨h1, h2, h3⟩ := S_or g hT n (by omega)
      have e1 : (T ||| 2 ^ p).testBit n = T.testBit n := by
        rw [or_testBit]
        have : decide (n = p) = false := by simp [e]
        rw [this, Bool.or_false]
      rw [enS, hiS, fnS, enS, hiS, fnS, e1, h1, h2, h3]
      cases T.testBit n with
      | false => exact ⟨rfl, rfl, rfl⟩
      | true =>
        simp only [if_true]
        refine ⟨?_, ?_, by omega⟩
        · split <;> split <;> (try split) <;> (try split) <;> omega
        · split <;> split <;> (try split) <;> (try split) <;> omega
theorem S_zero (g : GS) : ∀ n, enS g 0 n = 199 ∧ hiS g 0 n = 0 ∧ fnS g 0 n = 0
  | 0 => ⟨rfl, rfl, rfl⟩
  | n + 1 => by
    obtain ⟨h1, h2, h3⟩ := S_zero g n
    rw [enS, hiS, fnS, h1, h2, h3]
    simp
/-- of a tour, by its set -/
theorem S_tour (g : GS) {t : Nat → Nat} {n : Nat} : ∀ m, (∀ k, k < m → t k < n ∧ (dsT 0 t k).testBit (t k) = false) → enS g (dsT 0 t m) n = enF g t m ∧ hiS g (dsT 0 t m) n = hiF g t m ∧ fnS g (dsT 0 t m) n = fnF g t m
  | 0, _ => S_zero g n
  | m + 1, h => by
    obtain ⟨h1, h2, h3⟩ := S_tour g (t := t) (n := n) m (fun k hk => h k (by omega))
    obtain ⟨a, b⟩ := h m (by omega)
    have := S_or g (p := t m) b n a
    rw [dsT, enF, hiF, fnF, ← h1, ← h2, ← h3]
    exact this
def lvS (g : GS) (T n : Nat) : Nat := if fnS g T n = 0 then hiS g T n else 199
theorem S_le (g : GS) (hW : Wk g) (T : Nat) : ∀ n, n ≤ 10 → enS g T n ≤ 199 ∧ hiS g T n ≤ 160 ∧ fnS g T n ≤ n
  | 0, _ => ⟨Nat.le_refl _, by show 0 ≤ 160; omega, Nat.le_refl _⟩
  | n + 1, h => by
    obtain ⟨h1, h2, h3⟩ := S_le g hW T n (by omega)
    have hs : sxP g n ≤ 160 := by
      have := slO_le g (g 38 n)
      unfold sxP
      omega
    have hf : fiP g n ≤ 1 := (hW.2.2.2.1 _ (hW.2.2.1 n (by omega)).2.2).2.2.2
    rw [enS, hiS, fnS]
    refine ⟨?_, ?_, ?_⟩
    · split
      · split <;> omega
      · omega
    · split
      · split <;> omega
      · omega
    · split <;> omega
theorem ky_step {t : Nat → Nat} {m : Nat} (hm : m < 4) (h : t m ≤ 7) : ky t (m + 1) + (7 - t m) * 2 ^ (3 * (3 - m)) = ky t m := by
  unfold ky kd
  rcases (show m = 0 ∨ m = 1 ∨ m = 2 ∨ m = 3 by omega) with z | z | z | z
  · subst z; simp; omega
  · subst z; simp; omega
  · subst z; simp; omega
  · subst z; simp; omega
theorem ky_digit {t : Nat → Nat} {m k a : Nat} (hk : k < 4) (h : ∀ k, k < m → t k < 7) : (a * 4096 + ky t m) / 2 ^ (3 * (3 - k)) % 2 ^ 3 = kd t m k := by
  have a0 := kd_lt h 0
  have a1 := kd_lt h 1
  have a2 := kd_lt h 2
  have a3 := kd_lt h 3
  unfold ky
  rcases (show k = 0 ∨ k = 1 ∨ k = 2 ∨ k = 3 by omega) with z | z | z | z <;> subst z <;> simp only [Nat.sub_zero, Nat.reduceMul, Nat.reduceSub, Nat.reducePow] <;> omega
section FL
variable {E : Env0} {d : Nat} {M : Mem} {Q : Int32 → Mem → Prop} {g : GS}
theorem ds_amt : ∀ k, k < 4 → (3 : Int32) * (3 - nI k) = nI (3 * (3 - k)) := by decide +kernel
theorem c_F_digitShift {k : Nat} (hk : k < 4) (h : Q (nI (3 * (3 - k))) M) : CE E d n_F_digitShift [.inl (nI k)] M Q := by
  refine CE_of rfl (b_F_digitShift_0 _ ?_)
  rw [ds_amt k hk]
  exact h
theorem c_F_withDigit {t : Nat → Nat} {m : Nat} (hm : m < 4) (ht : t m < 7) (h : Q (nI (ky t (m + 1))) M) : CE E (d + 1) n_F_withDigit [.inl (nI (ky t m)), .inl (nI m), .inl (nI (t m))] M Q := by
  refine CE_of rfl (b_F_withDigit_0 _ _ _ (c_F_digitShift hm ?_))
  have h2 := ky_step (t := t) hm (by omega)
  have h3 : (2 : Nat) ^ (3 * (3 - m)) ≤ 2 ^ 9 := Nat.pow_le_pow_right (by omega) (by omega)
  have h4 : (7 - t m) * 2 ^ (3 * (3 - m)) ≤ 7 * 2 ^ 9 := Nat.mul_le_mul (by omega) h3
  rw [show (7 : Int32) = nI 7 from rfl, pk_sub (by omega), pk_shlN _ (3 * (3 - m)) (sh_amt _ (by omega)) (by omega), pk_sub (by omega)]
  rw [show ky t m - (7 - t m) * 2 ^ (3 * (3 - m)) = ky t (m + 1) by omega]
  exact h
theorem c_F_digit {a : Nat} {t : Nat → Nat} {m k : Nat} (hk : k < 4) (ht : ∀ k, k < m → t k < 7) (hb : a * 4096 + ky t m < 2 ^ 31) (h : Q (nI (kd t m k)) M) : CE E (d + 1) n_F_digit [.inl (nI (a * 4096 + ky t m)), .inl (nI k)] M Q := by
  refine CE_of rfl (b_F_digit_0 _ _ (c_F_digitShift hk ?_))
  rw [pk_shrN hb _ (3 * (3 - k)) (sh_amt _ (by omega)), show (7 : Int32) = nI (2 ^ 3 - 1) from rfl, fa_mask, ky_digit hk ht]
  exact h
def TB (R : Nat → Nat) (M : Mem) : Prop := ∀ j, j < 1024 → M 25 j = nI (R j) ∧ R j < 2 ^ 31
theorem TB.fr {R : Nat → Nat} {M M' : Mem} (h : TB R M) (e : M' 25 = M 25) : TB R M' := fun j hj => by rw [e]; exact h j hj
theorem c_F_keep {R : Nat → Nat} {s v key : Nat} (hs : s < 1024) (hk : key < 4096) (hv : v * 4096 + key < 2 ^ 31) (hT : TB R M) (h : ∀ M', sO 25 M M' → TB (fs R s (if v * 4096 + key < R s then v * 4096 + key else R s)) M' → Q 0 M') : CE E d n_F_keep [.inr 20, .inl (nI s), .inl (nI v), .inl (nI key)] M Q := by
  refine CE_of rfl (b_F_keep_0 _ _ _ ⟨vp_in_nI hs (by omega), vp_in_nI hs (by omega), h _ (sO.set 25 _ _) (fun j hj => ?_)⟩)
  have e12 : nI v <<< ((12 : Int32) &&& 31) = nI (v * 4096) := by
    have h19 : v * 4096 < 4294967296 := Nat.lt_of_le_of_lt (Nat.le_add_right _ key) (Nat.lt_trans hv (by decide))
    have := pk_shlN (n := v) ((12 : Int32) &&& 31) 12 (by decide) (by rw [show (2 : Nat) ^ 12 = 4096 by decide, show (2 : Nat) ^ 32 = 4294967296 by decide]; exact h19)
    rw [this, show (2 : Nat) ^ 12 = 4096 by decide]
  obtain ⟨t1, t2⟩ := hT s hs
  have e1 : (nI v <<< ((12 : Int32) &&& 31)) ||| nI key = nI (v * 4096 + key) := by
    rw [e12]
    have := fa_or_sum (a := key) (k := 12) v (by omega)
    rw [show 2 ^ 12 * v = v * 4096 by omega] at this
    exact this
  rw [mset_eq, nI_clamp (by omega), e1, t1]
  unfold upd fs
  by_cases q : j = s
  · rw [if_pos q, if_pos q]
    by_cases z : v * 4096 + key < R s
    · rw [if_pos ((nI_ltI (by omega) (by omega)).mpr z), if_pos z]
      exact ⟨rfl, by omega⟩
    · rw [if_neg (fun y => z ((nI_ltI (by omega) (by omega)).mp y)), if_neg z]
      exact ⟨rfl, t2⟩
  · rw [if_neg q, if_neg q]
    exact hT j hj
theorem c_F_canCome {p D : Nat} (hD : DC g M) (hp : p < pls g) (hp10 : pls g ≤ 10) (hb : D < 2 ^ 31) (k : ∀ o : Bool, (o = true ↔ D.testBit p = false ∧ ∀ q, q < pls g → ahB g q p = true → D.testBit q = true) → Q (b2 o) M) : CE E (d + 1) n_F_canCome [.inr 20, .inl (nI p), .inl (nI D)] M Q := by
  have h9 := (hD.2.1.2.1 p hp).2.2.2.1
  have hl := bitsOf_lt (fun z => ahB g z p) (pls g)
  have hl2 : 2 ^ pls g ≤ 2 ^ 10 := Nat.pow_le_pow_right (by omega) hp10
  refine CE_of rfl (b_F_canCome_0 _ _ (c_D_hasBit hb (by omega) ⟨fun c1 => ⟨z01_0, ?_⟩, fun c1 => ⟨vp_in_nI (by omega) (by omega), fun c2 => ⟨z01_0, ?_⟩, fun c2 => ⟨z01_1, ?_⟩⟩⟩))
  · rw [b2_nz] at c1
    exact k false ⟨fun z => absurd z (by decide), fun z => by rw [c1] at z; exact absurd z.1 (by decide)⟩
  · rw [nI_clamp (by omega), h9, andn_z (by omega)] at c2
    refine k false ⟨fun z => absurd z (by decide), fun z => absurd (fun q hq => ?_) c2⟩
    rw [bitsOf_bit, Bool.and_eq_true, decide_eq_true_eq] at hq
    exact z.2 q hq.1 hq.2
  · rw [nI_clamp (by omega), h9, andn_z (by omega)] at c2
    rw [b2_z] at c1
    refine k true ⟨fun _ => ⟨c1, fun q hq hA => c2 q ?_⟩, fun _ => rfl⟩
    rw [bitsOf_bit, Bool.and_eq_true, decide_eq_true_eq]
    exact ⟨hq, hA⟩
def rcB (g : GS) (D : Nat) : Prop := ∀ p, p < pls g → D.testBit p = true → ∀ q, q < pls g → ahB g q p = true → D.testBit q = true
theorem c_F_isReachable {D : Nat} (hD : DC g M) (hp10 : pls g ≤ 10) (hb : D < 2 ^ 31) (k : ∀ o : Bool, (o = true ↔ rcB g D) → Q (b2 o) M) : CE E (d + 1) n_F_isReachable [.inr 20, .inl (nI D)] M Q := by
  have h4 : M 1 4 = nI (pls g) := hD.2.1.1
  have key : ∀ (m p : Nat), p + m = pls g → (∀ p', p' < p → D.testBit p' = true → ∀ q, q < pls g → ahB g q p' = true → D.testBit q = true) → JE E (d + 1) n_F_isReachable 2 [some (.inr 20), some (.inl (nI D)), some (.inl (nI p))] [] M Q := by
    intro m
    induction m with
    | zero =>
      intro p hp hok
      exact b_F_isReachable_2 _ _ ⟨fun _ => ⟨z01_1, k true ⟨fun _ p' hp' => hok p' (by omega), fun _ => rfl⟩⟩, fun c1 => absurd (by rw [h4]; exact nI_le (by omega) (by omega)) c1⟩
    | succ m ih =>
      intro p hp hok
      have h9 := (hD.2.1.2.1 p (by omega)).2.2.2.1
      have hl := bitsOf_lt (fun z => ahB g z p) (pls g)
      have hl2 : 2 ^ pls g ≤ 2 ^ 10 := Nat.pow_le_pow_right (by omega) hp10
      have next : (D.testBit p = true → ∀ q, q < pls g → ahB g q p = true → D.testBit q = true) → JE E (d + 1) n_F_isReachable 2 [some (.inr 20), some (.inl (nI D)), some (.inl (nI p + 1))] [] M Q := fun hn => by
        rw [nI_1]
        refine ih (p + 1) (by omega) (fun p' hp' => ?_)
        by_cases e : p' = p
        · subst e; exact hn
        · exact hok p' (by omega)
      refine b_F_isReachable_2 _ _ ⟨fun c1 => absurd c1 (by rw [h4]; exact nI_ge (by omega) (by omega)), fun _ => c_D_hasBit hb (by omega) ⟨fun c2 => ?_, fun c2 => ⟨vp_in_nI (by omega) (by omega), fun c3 => ?_, fun c3 => ⟨z01_0, ?_⟩⟩⟩⟩
      · rw [b2_z] at c2
        exact next (fun z => by rw [c2] at z; exact absurd z (by decide))
      · rw [nI_clamp (by omega), h9, andn_z (by omega)] at c3
        refine next (fun _ q hq hA => c3 q ?_)
        rw [bitsOf_bit, Bool.and_eq_true, decide_eq_true_eq]
        exact ⟨hq, hA⟩
      · rw [nI_clamp (by omega), h9, andn_z (by omega)] at c3
        rw [b2_nz] at c2
        refine k false ⟨fun z => absurd z (by decide), fun z => absurd (fun q hq => ?_) c3⟩
        rw [bitsOf_bit, Bool.and_eq_true, decide_eq_true_eq] at hq
        exact z p (by omega) c2 q hq.1 hq.2
  exact CE_of rfl (b_F_isReachable_0 _ (key (pls g) 0 (by omega) (fun p' z => by omega)))
theorem c_F_findSlots (hD : DC g M) (hW : Wk g) (hp7 : pls g ≤ 7) (k1 : ∀ M', (∀ p, p < pls g → slO g (g 38 p) < 8) → sO 21 M M' → (∀ p, p < pls g → M' 21 p = nI (sxP g p)) → Q 1 M') (k0 : ∀ M' p, p < pls g → slO g (g 38 p) = 8 → sO 21 M M' → Q 0 M') : CE E (d + 1) n_F_findSlots [.inr 20] M Q := by
  have key : ∀ (m p : Nat) (M1 : Mem) (o2 : Option V), p + m = pls g → sO 21 M M1 → (∀ p', p' < p → slO g (g 38 p') < 8 ∧ M1 21 p' = nI (sxP g p')) → JE E (d + 1) n_F_findSlots 2 [some (.inr 20), some (.inl (nI p)), o2] [] M1 Q := by
    intro m
    induction m with
    | zero =>
      intro p M1 o2 hp s1 hok
      have h4 : M1 1 4 = nI (pls g) := by rw [s1 1 (by omega)]; exact hD.2.1.1
      exact b_F_findSlots_2 _ _ ⟨fun _ => ⟨z01_1, k1 M1 (fun p' hp' => (hok p' (by omega)).1) s1 (fun p' hp' => (hok p' (by omega)).2)⟩, fun c1 => absurd (by rw [h4]; exact nI_le (by omega) (by omega)) c1⟩
    | succ m ih =>
      intro p M1 o2 hp s1 hok
      have h4 : M1 1 4 = nI (pls g) := by rw [s1 1 (by omega)]; exact hD.2.1.1
      have h8 : M1 8 p = nI (g 38 p) := by rw [s1 8 (by omega)]; exact (hD.2.1.2.1 p (by omega)).2.2.1
      have hk8 := (hW.2.2.1 p (by omega)).2.2
      have hsl := slO_le g (g 38 p)
      refine b_F_findSlots_2 _ _ ⟨fun c1 => absurd c1 (by rw [h4]; exact nI_ge (by omega) (by omega)), fun _ => ⟨vp_in_nI (by omega) (by omega), ?_⟩⟩
      rw [nI_clamp (by omega), h8]
      refine c_S_lowestOf (f := g 40) (by omega) (fun s hs => ⟨by have := (hW.2.2.2.2.2.1 s hs).1; omega, by rw [s1 12 (by omega)]; exact (hD.2.2.1 s hs).1⟩) ?_
      have ee : fst (fun s => g 40 s == g 38 p + 1) 8 0 = slO g (g 38 p) := rfl
      rw [ee]
      refine ⟨fun c1 => ⟨vp_in_nI (by omega) (by omega), ?_⟩, fun c1 => ⟨z01_0, ?_⟩⟩
      · rw [e8_none hsl] at c1
        have e9 : e8 (slO g (g 38 p)) = nI (slO g (g 38 p)) := if_pos (by omega)
        rw [nI_1, e9, show (20 : Int32) = nI 20 from rfl, pk_mul]
        refine ih (p + 1) _ _ (by omega) (s1.tr (sO.set 21 _ _)) (fun p' hp' => ?_)
        rw [mset_eq]
        unfold upd
        by_cases e : p' = p
        · rw [if_pos e, e]
          exact ⟨by omega, rfl⟩
        · rw [if_neg e]; exact hok p' (by omega)
      · rw [e8_none hsl] at c1
        exact k0 M1 p (by omega) c1 s1
  exact CE_of rfl (b_F_findSlots_0 (key (pls g) 0 M _ (by omega) sO.rf (fun p' z => by omega)))
theorem c_F_measure {T : Nat} (hD : DC g M) (hW : Wk g) (hp7 : pls g ≤ 7) (hT : T < 128) (h21 : ∀ p, p < pls g → M 21 p = nI (sxP g p)) (k : ∀ M', (∀ k', k' ≠ 22 → k' ≠ 23 → k' ≠ 24 → M' k' = M k') → (∀ j, j ≠ T → M' 22 j = M 22 j ∧ M' 23 j = M 23 j ∧ M' 24 j = M 24 j) → M' 23 T = nI (enS g T (pls g)) → M' 24 T = nI (lvS g T (pls g)) → M' 22 T = nI (lvS g T (pls g)) - nI (enS g T (pls g)) + nI (fnS g T (pls g) * g 31 14) + nI (pc T 10 * (g 31 12 + g 31 13)) → Q 0 M') : CE E (d + 1) n_F_measure [.inr 20, .inl (nI T)] M Q := by
  have h4 : M 1 4 = nI (pls g) := hD.2.1.1
  obtain ⟨-, g1, g2, g3, -⟩ := hD.2.2.2.1
  have vT : vp_in (nI T) 128 := vp_in_nI hT (by omega)
  have fin : ∀ x : Int32, x = nI (lvS g T (pls g)) → (k' : Q 0 (mset (mset (mset M 23 T (nI (enS g T (pls g)))) 24 T x) 22 T (((((mset (mset M 23 T (nI (enS g T (pls g)))) 24 T x) 24 T) - nI (enS g T (pls g))) + (nI (fnS g T (pls g)) * (M 14 3))) + (nI (pc T 10) * ((mset (mset M 23 T (nI (enS g T (pls g)))) 24 T x 14 1) + (mset (mset M 23 T (nI (enS g T (pls g)))) 24 T x 14 2))))) → True) → Q 0 (mset (mset (mset M 23 T (nI (enS g T (pls g)))) 24 T x) 22 T (((((mset (mset M 23 T (nI (enS g T (pls g)))) 24 T x) 24 T) - nI (enS g T (pls g))) + (nI (fnS g T (pls g)) * (M 14 3))) + (nI (pc T 10) * ((mset (mset M 23 T (nI (enS g T (pls g)))) 24 T x 14 1) + (mset (mset M 23 T (nI (enS g T (pls g)))) 24 T x 14 2))))) := by
    intro x hx _
    refine k _ (fun k' a b c => by rw [mset_ne _ _ _ a, mset_ne _ _ _ c, mset_ne _ _ _ b]) (fun j hj => ⟨?_, ?_, ?_⟩) ?_ ?_ ?_
    · rw [mset_eq]
      show (if j = T then _ else _) = _
      rw [if_neg hj, mset_ne _ _ _ (by omega), mset_ne _ _ _ (by omega)]
    · rw [mset_ne _ _ _ (by omega), mset_ne _ _ _ (by omega), mset_eq]
      exact if_neg hj
    · rw [mset_ne _ _ _ (by omega), mset_eq]
      show (if j = T then _ else _) = _
      rw [if_neg hj, mset_ne _ _ _ (by omega)]
    · rw [mset_ne _ _ _ (by omega), mset_ne _ _ _ (by omega), mset_eq]
      exact if_pos rfl
    · rw [mset_ne _ _ _ (by omega), mset_eq]
      show (if T = T then _ else _) = _
      rw [if_pos rfl, hx]
    · rw [mset_eq]
      show (if T = T then _ else _) = _
      rw [if_pos rfl, mset_ne _ _ _ (show 14 ≠ 24 by omega), mset_ne _ _ _ (show 14 ≠ 23 by omega), g1, g2, g3, mset_eq, nI_add, pk_mul, pk_mul]
      have : upd (mset M 23 T (nI (enS g T (pls g))) 24) T x T = x := if_pos rfl
      rw [this, hx]
  have key : ∀ (m p : Nat), p + m = pls g → JE E (d + 1) n_F_measure 12 [some (.inr 20), some (.inl (nI T)), some (.inl (nI (enS g T p))), some (.inl (nI (hiS g T p))), some (.inl (nI (fnS g T p))), some (.inl (nI p))] [] M Q := by
    intro m
    induction m with
    | zero =>
      intro p hp
      have hpp : p = pls g := by omega
      have hle := S_le g hW T p (by omega)
      refine b_F_measure_12 _ _ _ _ _ ⟨fun _ => ⟨vT, fun c2 => ⟨vT, vT, c_JI_bitCount (by omega) ⟨vT, ?_⟩⟩, fun c2 => ⟨vT, vT, c_JI_bitCount (by omega) ⟨vT, ?_⟩⟩⟩, fun c1 => absurd (by rw [h4]; exact nI_le (by omega) (by omega)) c1⟩
      · rw [zero_nI, nI_leI (by omega) (by omega)] at c2
        rw [nI_clamp (by omega)]
        subst hpp
        exact fin _ (by unfold lvS; rw [if_pos (by omega)]) (fun _ => trivial)
      · rw [zero_nI, nI_leI (by omega) (by omega)] at c2
        rw [nI_clamp (by omega)]
        subst hpp
        exact fin _ (by unfold lvS; rw [if_neg (by omega)]; rfl) (fun _ => trivial)
    | succ m ih =>
      intro p hp
      have hk8 := (hW.2.2.1 p (by omega)).2.2
      have hfi := (hW.2.2.2.1 _ hk8).2.2.2
      have hle := S_le g hW T p (by omega)
      have hsx : sxP g p ≤ 160 := by
        have := slO_le g (g 38 p)
        unfold sxP
        omega
      have go := ih (p + 1) (by omega)
      rw [enS, hiS, fnS] at go
      refine b_F_measure_12 _ _ _ _ _ ⟨fun c1 => absurd c1 (by rw [h4]; exact nI_ge (by omega) (by omega)), fun _ => c_D_hasBit (by omega) (by omega) ⟨fun c2 => ?_, fun c2 => ⟨vp_in_nI (by omega) (by omega), vp_in_nI (by omega) (by omega), ?_⟩⟩⟩
      · rw [b2_z] at c2
        rw [c2] at go
        rw [nI_1]
        exact go
      · rw [b2_nz] at c2
        rw [c2] at go
        simp only [if_true] at go
        have e1 : (if M 21 p < nI (enS g T p) then M 21 p else nI (enS g T p)) = nI (if sxP g p < enS g T p then sxP g p else enS g T p) := by
          rw [h21 p (by omega)]
          by_cases z : sxP g p < enS g T p
          · rw [if_pos ((nI_ltI (by omega) (by omega)).mpr z), if_pos z]
          · rw [if_neg (fun y => z ((nI_ltI (by omega) (by omega)).mp y)), if_neg z]
        have e2 : (if nI (hiS g T p) < M 21 p then M 21 p else nI (hiS g T p)) = nI (if hiS g T p < sxP g p then sxP g p else hiS g T p) := by
          rw [h21 p (by omega)]
          by_cases z : hiS g T p < sxP g p
          · rw [if_pos ((nI_ltI (by omega) (by omega)).mpr z), if_pos z]
          · rw [if_neg (fun y => z ((nI_ltI (by omega) (by omega)).mp y)), if_neg z]
        rw [nI_clamp (by omega), e1, e2, nI_1]
        refine c_B_isFine (k := g 38 p) (z := g 35 (g 38 p) == 1) (by omega) hk8 (hD.2.1.2.1 p (by omega)).2.2.1 ?_ ⟨fun c3 => ?_, fun c3 => ?_⟩
        · rw [(hD.1 _ hk8).2.2.2]
          exact nI_b2 hfi
        · rw [b2_z] at c3
          have : fiP g p = 0 := by
            have : ¬ g 35 (g 38 p) = 1 := by simpa using c3
            unfold fiP
            omega
          rw [this] at go
          rw [Int32.add_zero]
          exact go
        · rw [b2_nz, beq_iff_eq] at c3
          have : fiP g p = 1 := c3
          rw [this] at go
          rw [nI_1]
          exact go
  exact CE_of rfl (b_F_measure_0 _ (key (pls g) 0 (by omega)))
end FL
