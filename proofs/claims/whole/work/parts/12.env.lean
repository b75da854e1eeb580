/-! The environment as one name; the contracts' forms that the printed blocks use. -/
abbrev Env0 : Type := Launch × va_G × ClassId × ClassId × (Nat → Nat)
def JE (E : Env0) (d mi pc : Nat) (L : Lc) (st : List V) (M : Mem) (Q : Int32 → Mem → Prop) : Prop := J E.1 E.2.1 E.2.2.1 E.2.2.2.1 E.2.2.2.2 d mi pc L st M Q
def CE (E : Env0) (d mi : Nat) (vs : List V) (M : Mem) (Q : Int32 → Mem → Prop) : Prop := CM E.1 E.2.1 E.2.2.1 E.2.2.2.1 E.2.2.2.2 d mi vs M Q
def CPE (E : Env0) (d : Nat) (mi : Nat) (vs : List V) (M : Mem) (Q : Int32 → Mem → Prop) : Prop := match d with
  | 0 => False
  | d + 1 => CE E d mi vs M Q
theorem CPE_eq (E : Env0) (d : Nat) : CPE E d = CP E.1 E.2.1 E.2.2.1 E.2.2.2.1 E.2.2.2.2 d := by
  funext mi vs M Q
  cases d <;> rfl
theorem JE_steps {E : Env0} {d mi : Nat} (n : Nat) (cuts : List Nat) {pc : Nat} {L : Lc} {st : List V} {M : Mem} {Q : Int32 → Mem → Prop} (hmi : mi < 134)
    (h : stepsJ 0 (CPE E d) Q (fun pc L st M => JE E d mi pc L st M Q) (mCode mi) (mRet mi) cuts n pc L st M) : JE E d mi pc L st M Q := by
  rw [CPE_eq] at h
  exact J_steps E.1 E.2.1 E.2.2.1 E.2.2.2.1 E.2.2.2.2 n cuts hmi h
theorem CE_of {E : Env0} {d mi : Nat} {vs : List V} {M : Mem} {Q : Int32 → Mem → Prop} (hmi : (Nat.ble (mi + 1) 134 && (!isMath mi && (!isLaw mi && Nat.ble vs.length (mMax mi)))) = true) (h : JE E d mi 0 (entL vs (mMax mi)) [] M Q) : CE E d mi vs M Q := by
  simp only [Bool.and_eq_true, Bool.not_eq_true'] at hmi
  exact CM_of E.1 E.2.1 E.2.2.1 E.2.2.2.1 E.2.2.2.2 (Nat.le_of_ble_eq_true hmi.1) hmi.2.1 hmi.2.2.1 (Nat.le_of_ble_eq_true hmi.2.2.2) h
def Z01 (z : Int32) : Prop := z = 0 ∨ z = 1
def NZ (z : Int32) : Prop := ¬ z = 0
