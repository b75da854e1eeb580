/-! every method's code word (printed) -/
theorem cw_all : ∀ x : Nat, x < 134 → isLaw x = false → codeW x ∈ gw := by
  intro x h hl
  match x, h, hl with
  | 0, _, _ => exact gw_nth cw_0 rfl
  | 1, _, _ => exact gw_nth cw_1 rfl
  | 2, _, _ => exact gw_nth cw_2 rfl
  | 3, _, _ => exact gw_nth cw_3 rfl
  | 4, _, _ => exact gw_nth cw_4 rfl
  | 5, _, _ => exact gw_nth cw_5 rfl
  | 6, _, _ => exact gw_nth cw_6 rfl
  | 7, _, _ => exact gw_nth cw_7 rfl
  | 8, _, _ => exact gw_nth cw_8 rfl
  | 9, _, _ => exact gw_nth cw_9 rfl
  | 10, _, _ => exact gw_nth cw_10 rfl
  | 11, _, _ => exact gw_nth cw_11 rfl
  | 12, _, _ => exact gw_nth cw_12 rfl
  | 13, _, _ => exact gw_nth cw_13 rfl
  | 14, _, _ => exact gw_nth cw_14 rfl
  | 15, _, _ => exact gw_nth cw_15 rfl
  | 16, _, _ => exact gw_nth cw_16 rfl
  | 17, _, _ => exact gw_nth cw_17 rfl
  | 18, _, _ => exact gw_nth cw_18 rfl
  | 19, _, _ => exact gw_nth cw_19 rfl
  | 20, _, _ => exact gw_nth cw_20 rfl
  | 21, _, _ => exact gw_nth cw_21 rfl
  | 22, _, _ => exact gw_nth cw_22 rfl
  | 23, _, _ => exact gw_nth cw_23 rfl
  | 24, _, _ => exact gw_nth cw_24 rfl
  | 25, _, _ => exact gw_nth cw_25 rfl
  | 26, _, _ => exact gw_nth cw_26 rfl
  | 27, _, _ => exact gw_nth cw_27 rfl
  | 28, _, _ => exact gw_nth cw_28 rfl
  | 29, _, _ => exact gw_nth cw_29 rfl
  | 30, _, _ => exact gw_nth cw_30 rfl
  | 31, _, _ => exact gw_nth cw_31 rfl
  | 32, _, _ => exact gw_nth cw_32 rfl
  | 33, _, _ => exact gw_nth cw_33 rfl
  | 34, _, _ => exact gw_nth cw_34 rfl
  | 35, _, _ => exact gw_nth cw_35 rfl
  | 36, _, _ => exact gw_nth cw_36 rfl
  | 37, _, _ => exact gw_nth cw_37 rfl
  | 38, _, _ => exact gw_nth cw_38 rfl
  | 39, _, _ => exact gw_nth cw_39 rfl
  | 40, _, _ => exact gw_nth cw_40 rfl
  | 41, _, _ => exact gw_nth cw_41 rfl
  | 42, _, _ => exact gw_nth cw_42 rfl
  | 43, _, _ => exact gw_nth cw_43 rfl
  | 44, _, _ => exact gw_nth cw_44 rfl
  | 45, _, _ => exact gw_nth cw_45 rfl
  | 46, _, _ => exact gw_nth cw_46 rfl
  | 47, _, _ => exact gw_nth cw_47 rfl
  | 48, _, _ => exact gw_nth cw_48 rfl
  | 49, _, _ => exact gw_nth cw_49 rfl
  | 50, _, _ => exact gw_nth cw_50 rfl
  | 51, _, _ => exact gw_nth cw_51 rfl
  | 52, _, _ => exact gw_nth cw_52 rfl
  | 53, _, _ => exact gw_nth cw_53 rfl
  | 54, _, _ => exact gw_nth cw_54 rfl
  | 55, _, _ => exact gw_nth cw_55 rfl
  | 56, _, _ => exact gw_nth cw_56 rfl
  | 57, _, _ => exact gw_nth cw_57 rfl
  | 58, _, _ => exact gw_nth cw_58 rfl
  | 59, _, _ => exact gw_nth cw_59 rfl
  | 60, _, _ => exact gw_nth cw_60 rfl
  | 61, _, _ => exact gw_nth cw_61 rfl
  | 62, _, _ => exact gw_nth cw_62 rfl
  | 63, _, _ => exact gw_nth cw_63 rfl
  | 64, _, _ => exact gw_nth cw_64 rfl
  | 65, _, _ => exact gw_nth cw_65 rfl
  | 66, _, _ => exact gw_nth cw_66 rfl
  | 67, _, _ => exact gw_nth cw_67 rfl
  | 68, _, _ => exact gw_nth cw_68 rfl
  | 69, _, _ => exact gw_nth cw_69 rfl
  | 70, _, _ => exact gw_nth cw_70 rfl
  | 71, _, _ => exact gw_nth cw_71 rfl
  | 72, _, _ => exact gw_nth cw_72 rfl
  | 73, _, _ => exact gw_nth cw_73 rfl
  | 74, _, _ => exact gw_nth cw_74 rfl
  | 75, _, _ => exact gw_nth cw_75 rfl
  | 76, _, _ => exact gw_nth cw_76 rfl
  | 77, _, _ => exact gw_nth cw_77 rfl
  | 78, _, _ => exact gw_nth cw_78 rfl
  | 79, _, _ => exact gw_nth cw_79 rfl
  | 80, _, _ => exact gw_nth cw_80 rfl
  | 81, _, _ => exact gw_nth cw_81 rfl
  | 82, _, _ => exact gw_nth cw_82 rfl
  | 83, _, _ => exact gw_nth cw_83 rfl
  | 84, _, _ => exact gw_nth cw_84 rfl
  | 85, _, _ => exact gw_nth cw_85 rfl
  | 86, _, _ => exact gw_nth cw_86 rfl
  | 87, _, _ => exact gw_nth cw_87 rfl
  | 88, _, _ => exact gw_nth cw_88 rfl
  | 89, _, _ => exact gw_nth cw_89 rfl
  | 90, _, _ => exact gw_nth cw_90 rfl
  | 91, _, _ => exact gw_nth cw_91 rfl
  | 92, _, _ => exact gw_nth cw_92 rfl
  | 93, _, _ => exact gw_nth cw_93 rfl
  | 94, _, _ => exact gw_nth cw_94 rfl
  | 95, _, _ => exact gw_nth cw_95 rfl
  | 96, _, _ => exact gw_nth cw_96 rfl
  | 97, _, _ => exact gw_nth cw_97 rfl
  | 98, _, _ => exact gw_nth cw_98 rfl
  | 99, _, _ => exact gw_nth cw_99 rfl
  | 100, _, _ => exact gw_nth cw_100 rfl
  | 101, _, _ => exact gw_nth cw_101 rfl
  | 102, _, _ => exact gw_nth cw_102 rfl
  | 103, _, _ => exact gw_nth cw_103 rfl
  | 104, _, _ => exact gw_nth cw_104 rfl
  | 105, _, _ => exact gw_nth cw_105 rfl
  | 106, _, _ => exact gw_nth cw_106 rfl
  | 107, _, _ => exact gw_nth cw_107 rfl
  | 108, _, _ => exact gw_nth cw_108 rfl
  | 109, _, _ => exact gw_nth cw_109 rfl
  | 110, _, _ => exact gw_nth cw_110 rfl
  | 111, _, _ => exact gw_nth cw_111 rfl
  | 112, _, _ => exact gw_nth cw_112 rfl
  | 113, _, _ => exact gw_nth cw_113 rfl
  | 114, _, _ => exact gw_nth cw_114 rfl
  | 115, _, _ => exact gw_nth cw_115 rfl
  | 116, _, _ => exact gw_nth cw_116 rfl
  | 117, _, _ => exact gw_nth cw_117 rfl
  | 118, _, _ => exact gw_nth cw_118 rfl
  | 119, _, _ => exact gw_nth cw_119 rfl
  | 120, _, _ => exact gw_nth cw_120 rfl
  | 121, _, _ => exact gw_nth cw_121 rfl
  | 122, _, _ => exact gw_nth cw_122 rfl
  | 123, _, _ => exact gw_nth cw_123 rfl
  | 124, _, _ => exact gw_nth cw_124 rfl
  | 125, _, _ => exact gw_nth cw_125 rfl
  | 126, _, _ => exact gw_nth cw_126 rfl
  | 127, _, _ => exact gw_nth cw_127 rfl
  | 128, _, hl => exact absurd hl (by decide)
  | 129, _, _ => exact gw_nth cw_129 rfl
  | 130, _, _ => exact gw_nth cw_130 rfl
  | 131, _, _ => exact gw_nth cw_131 rfl
  | 132, _, _ => exact gw_nth cw_132 rfl
  | 133, _, _ => exact gw_nth cw_133 rfl
  | n + 134, h, _ => exact absurd h (by omega)
def lnkB (q : Nat × Nat × Nat × Bool) : Bool := Nat.ble (q.2.2.1 + 1) 134 && !isLaw q.2.2.1
set_option maxRecDepth 100000 in
theorem lnk_ok : mlinks.all lnkB = true := by decide +kernel
theorem lnk_get {o i x : Nat} {b : Bool} (h : (o, i, x, b) ∈ mlinks) : x < 134 ∧ isLaw x = false := by
  have h1 := List.all_eq_true.mp lnk_ok _ h
  simp only [lnkB, Bool.and_eq_true, Bool.not_eq_true'] at h1
  exact ⟨Nat.le_of_ble_eq_true h1.1, h1.2⟩
theorem mm_abs : Cond.static Lib.Math.abs.name ∈ gw := gw_at (i := 2119) (by decide +kernel)
theorem mc_abs : Cond.code Lib.Math.abs.name Lib.Math.abs.code 1 (some .int) ∈ gw := gw_nth (k := 2) (i := 120) (by decide +kernel) rfl
theorem mn_abs : mName 130 = Lib.Math.abs.name := by decide +kernel
theorem mm_max : Cond.static Lib.Math.max.name ∈ gw := gw_at (i := 2122) (by decide +kernel)
theorem mc_max : Cond.code Lib.Math.max.name Lib.Math.max.code 2 (some .int) ∈ gw := gw_nth (k := 2) (i := 123) (by decide +kernel) rfl
theorem mn_max : mName 131 = Lib.Math.max.name := by decide +kernel
theorem mm_min : Cond.static Lib.Math.min.name ∈ gw := gw_at (i := 3051) (by decide +kernel)
theorem mc_min : Cond.code Lib.Math.min.name Lib.Math.min.code 2 (some .int) ∈ gw := gw_nth (k := 3) (i := 52) (by decide +kernel) rfl
theorem mn_min : mName 132 = Lib.Math.min.name := by decide +kernel
theorem mi_math : Cond.initialized "java/lang/Math" ∈ gw := gw_at (i := 1012) (by decide +kernel)
set_option maxRecDepth 100000 in
theorem nst_ok : mlinks.all (fun q => !q.2.2.2 || !isMath q.2.2.1) = true := by decide +kernel
theorem nst_get {o i x : Nat} (h : (o, i, x, true) ∈ mlinks) : isMath x = false := by
  have h1 := List.all_eq_true.mp nst_ok _ h
  simpa using h1
