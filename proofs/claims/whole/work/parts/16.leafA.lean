/-! Leaves of the class and of the reference. -/
section LF
variable {E : Env0} {d : Nat} {M : Mem} {Q : Int32 → Mem → Prop}
theorem c_D_isWithin {x y z : Int32} (h : Q (b2 (decide (y ≤ x ∧ x ≤ z))) M) : CE E d n_D_isWithin [.inl x, .inl y, .inl z] M Q := by
  refine CE_of rfl (b_D_isWithin_0 x y z ⟨fun c1 => ⟨z01_0, ?_⟩, fun c1 => ⟨fun c2 => ⟨z01_0, ?_⟩, fun c2 => ⟨z01_1, ?_⟩⟩⟩)
  · have : ¬ (y ≤ x ∧ x ≤ z) := fun q => (fa_of_lt c1).2.1 q.1
    simpa [b2, this] using h
  · have : ¬ (y ≤ x ∧ x ≤ z) := fun q => (fa_of_lt c2).2.1 q.2
    simpa [b2, this] using h
  · have : y ≤ x ∧ x ≤ z := ⟨fa_of_nlt c1, fa_of_nlt c2⟩
    simpa [b2, this] using h
theorem c_M_lies {x y z : Int32} (h : Q (b2 (decide (y ≤ x ∧ x ≤ z))) M) : CE E d n_M_lies [.inl x, .inl y, .inl z] M Q := by
  refine CE_of rfl (b_M_lies_0 x y z ⟨fun c1 => ⟨z01_0, ?_⟩, fun c1 => ⟨fun c2 => ⟨z01_0, ?_⟩, fun c2 => ⟨z01_1, ?_⟩⟩⟩)
  · have : ¬ (y ≤ x ∧ x ≤ z) := fun q => (fa_of_lt c1).2.1 q.1
    simpa [b2, this] using h
  · have : ¬ (y ≤ x ∧ x ≤ z) := fun q => (fa_of_lt c2).2.1 q.2
    simpa [b2, this] using h
  · have : y ≤ x ∧ x ≤ z := ⟨fa_of_nlt c1, fa_of_nlt c2⟩
    simpa [b2, this] using h
theorem c_D_hasBit {b j : Nat} (hb : b < 2 ^ 31) (hj : j < 31) (h : Q (b2 (b.testBit j)) M) : CE E d n_D_hasBit [.inl (nI b), .inl (nI j)] M Q := by
  refine CE_of rfl (b_D_hasBit_0 _ _ ⟨fun c1 => ⟨z01_0, ?_⟩, fun c1 => ⟨z01_1, ?_⟩⟩)
  · rw [bit_nz hb hj] at c1
    simpa [b2, c1] using h
  · rw [bit_nz hb hj] at c1
    simp only [Bool.not_eq_false] at c1
    simpa [b2, c1] using h
theorem c_D_way {x y x2 y2 : Nat} (hx : x < 2 ^ 30) (hy : y < 2 ^ 30) (hx2 : x2 < 2 ^ 30) (hy2 : y2 < 2 ^ 30) (h : Q (nI (mv x y x2 y2)) M) : CE E d n_D_way [.inl (nI x), .inl (nI y), .inl (nI x2), .inl (nI y2)] M Q := by
  refine CE_of rfl (b_D_way_0 _ _ _ _ ?_)
  rw [abs_dst hx hx2, abs_dst hy hy2]
  have h1 : dst x x2 < 2 ^ 31 := Nat.lt_of_le_of_lt (dst_le (n := 2 ^ 30) (by omega) (by omega)) (by omega)
  have h2 : dst y y2 < 2 ^ 31 := Nat.lt_of_le_of_lt (dst_le (n := 2 ^ 30) (by omega) (by omega)) (by omega)
  have e : (if nI (dst x x2) < nI (dst y y2) then nI (dst y y2) else nI (dst x x2)) = nI (mv x y x2 y2) := by
    unfold mv
    by_cases q : dst x x2 < dst y y2
    · rw [if_pos q, if_pos ((nI_ltI h1 h2).mpr q)]
    · rw [if_neg q, if_neg (fun z => q ((nI_ltI h1 h2).mp z))]
  rw [e]
  exact h
theorem c_M_far {x y : Nat} (hx : x < 2 ^ 30) (hy : y < 2 ^ 30) (h : Q (nI (dst x y)) M) : CE E d n_M_far [.inl (nI x), .inl (nI y)] M Q := by
  refine CE_of rfl (b_M_far_0 _ _ ⟨fun c1 => ?_, fun c1 => ?_⟩)
  · rw [nI_leI (by omega) (by omega)] at c1
    rw [pk_sub c1]
    have e : dst x y = x - y := by unfold dst; rw [if_neg (by omega)]
    rw [← e]; exact h
  · rw [nI_leI (by omega) (by omega)] at c1
    rw [pk_sub (by omega)]
    have e : dst x y = y - x := by unfold dst; rw [if_pos (by omega)]
    rw [← e]; exact h
theorem dst_lt {x y n : Nat} (hx : x < n) (hy : y < n) : dst x y < n := by
  unfold dst
  split <;> omega
theorem c_M_move {x y x2 y2 : Nat} (hx : x < 2 ^ 30) (hy : y < 2 ^ 30) (hx2 : x2 < 2 ^ 30) (hy2 : y2 < 2 ^ 30) (h : Q (nI (mv x y x2 y2)) M) : CE E (d + 1) n_M_move [.inl (nI x), .inl (nI y), .inl (nI x2), .inl (nI y2)] M Q := by
  have h1 := dst_lt hx hx2
  have h2 := dst_lt hy hy2
  refine CE_of rfl (b_M_move_0 _ _ _ _ (c_M_far hx hx2 (c_M_far hy hy2 ⟨fun c1 => c_M_far hy hy2 ?_, fun c1 => c_M_far hx hx2 ?_⟩)))
  · rw [nI_leI (by omega) (by omega)] at c1
    have e : mv x y x2 y2 = dst y y2 := by
      unfold mv
      split <;> omega
    rw [← e]; exact h
  · rw [nI_leI (by omega) (by omega)] at c1
    have e : mv x y x2 y2 = dst x x2 := by
      unfold mv
      split <;> omega
    rw [← e]; exact h
end LF
