/-! the same of the law, in pieces -/
set_option maxRecDepth 100000 in
theorem okl_0 : (List.range' 0 64).all (entOK 128) = true := by decide +kernel
set_option maxRecDepth 100000 in
theorem okl_1 : (List.range' 64 64).all (entOK 128) = true := by decide +kernel
set_option maxRecDepth 100000 in
theorem okl_2 : (List.range' 128 64).all (entOK 128) = true := by decide +kernel
set_option maxRecDepth 100000 in
theorem okl_3 : (List.range' 192 64).all (entOK 128) = true := by decide +kernel
set_option maxRecDepth 100000 in
theorem okl_4 : (List.range' 256 64).all (entOK 128) = true := by decide +kernel
set_option maxRecDepth 100000 in
theorem okl_5 : (List.range' 320 64).all (entOK 128) = true := by decide +kernel
set_option maxRecDepth 100000 in
theorem okl_6 : (List.range' 384 64).all (entOK 128) = true := by decide +kernel
set_option maxRecDepth 100000 in
theorem okl_7 : (List.range' 448 64).all (entOK 128) = true := by decide +kernel
set_option maxRecDepth 100000 in
theorem okl_8 : (List.range' 512 64).all (entOK 128) = true := by decide +kernel
set_option maxRecDepth 100000 in
theorem okl_9 : (List.range' 576 64).all (entOK 128) = true := by decide +kernel
set_option maxRecDepth 100000 in
theorem okl_10 : (List.range' 640 64).all (entOK 128) = true := by decide +kernel
set_option maxRecDepth 100000 in
theorem okl_11 : (List.range' 704 32).all (entOK 128) = true := by decide +kernel
theorem okl : mOK 128 = true := by
  refine List.all_eq_true.mpr fun pc hpc => ?_
  have h : pc < 736 := List.mem_range.mp hpc
  by_cases h0 : pc < 64
  · exact List.all_eq_true.mp okl_0 pc (List.mem_range'_1.mpr ⟨by omega, by omega⟩)
  by_cases h1 : pc < 128
  · exact List.all_eq_true.mp okl_1 pc (List.mem_range'_1.mpr ⟨by omega, by omega⟩)
  by_cases h2 : pc < 192
  · exact List.all_eq_true.mp okl_2 pc (List.mem_range'_1.mpr ⟨by omega, by omega⟩)
  by_cases h3 : pc < 256
  · exact List.all_eq_true.mp okl_3 pc (List.mem_range'_1.mpr ⟨by omega, by omega⟩)
  by_cases h4 : pc < 320
  · exact List.all_eq_true.mp okl_4 pc (List.mem_range'_1.mpr ⟨by omega, by omega⟩)
  by_cases h5 : pc < 384
  · exact List.all_eq_true.mp okl_5 pc (List.mem_range'_1.mpr ⟨by omega, by omega⟩)
  by_cases h6 : pc < 448
  · exact List.all_eq_true.mp okl_6 pc (List.mem_range'_1.mpr ⟨by omega, by omega⟩)
  by_cases h7 : pc < 512
  · exact List.all_eq_true.mp okl_7 pc (List.mem_range'_1.mpr ⟨by omega, by omega⟩)
  by_cases h8 : pc < 576
  · exact List.all_eq_true.mp okl_8 pc (List.mem_range'_1.mpr ⟨by omega, by omega⟩)
  by_cases h9 : pc < 640
  · exact List.all_eq_true.mp okl_9 pc (List.mem_range'_1.mpr ⟨by omega, by omega⟩)
  by_cases h10 : pc < 704
  · exact List.all_eq_true.mp okl_10 pc (List.mem_range'_1.mpr ⟨by omega, by omega⟩)
  by_cases h11 : pc < 736
  · exact List.all_eq_true.mp okl_11 pc (List.mem_range'_1.mpr ⟨by omega, by omega⟩)
  omega
theorem ok_all (mi : Nat) (h : mi < 134) : mOK mi = true := by
  by_cases hl : mi = 128
  · rw [hl]; exact okl
  by_cases h0 : mi < 12
  · exact List.all_eq_true.mp ok_0 mi (List.mem_range'_1.mpr ⟨by omega, by omega⟩)
  by_cases h1 : mi < 24
  · exact List.all_eq_true.mp ok_1 mi (List.mem_range'_1.mpr ⟨by omega, by omega⟩)
  by_cases h2 : mi < 36
  · exact List.all_eq_true.mp ok_2 mi (List.mem_range'_1.mpr ⟨by omega, by omega⟩)
  by_cases h3 : mi < 48
  · exact List.all_eq_true.mp ok_3 mi (List.mem_range'_1.mpr ⟨by omega, by omega⟩)
  by_cases h4 : mi < 60
  · exact List.all_eq_true.mp ok_4 mi (List.mem_range'_1.mpr ⟨by omega, by omega⟩)
  by_cases h5 : mi < 72
  · exact List.all_eq_true.mp ok_5 mi (List.mem_range'_1.mpr ⟨by omega, by omega⟩)
  by_cases h6 : mi < 84
  · exact List.all_eq_true.mp ok_6 mi (List.mem_range'_1.mpr ⟨by omega, by omega⟩)
  by_cases h7 : mi < 96
  · exact List.all_eq_true.mp ok_7 mi (List.mem_range'_1.mpr ⟨by omega, by omega⟩)
  by_cases h8 : mi < 108
  · exact List.all_eq_true.mp ok_8 mi (List.mem_range'_1.mpr ⟨by omega, by omega⟩)
  by_cases h9 : mi < 120
  · exact List.all_eq_true.mp ok_9 mi (List.mem_range'_1.mpr ⟨by omega, by omega⟩)
  by_cases h10 : mi < 128
  · exact List.all_eq_true.mp ok_10 mi (List.mem_range'_1.mpr ⟨by omega, by omega⟩)
  by_cases h11 : mi < 134
  · exact List.all_eq_true.mp ok_11 mi (List.mem_range'_1.mpr ⟨by omega, by omega⟩)
  omega
