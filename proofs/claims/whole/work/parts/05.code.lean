/-! each instruction of the tables is that of the bytes -/
set_option maxRecDepth 100000 in
theorem ok_0 : (List.range' 0 12).all mOK = true := by decide +kernel
set_option maxRecDepth 100000 in
theorem ok_1 : (List.range' 12 12).all mOK = true := by decide +kernel
set_option maxRecDepth 100000 in
theorem ok_2 : (List.range' 24 12).all mOK = true := by decide +kernel
set_option maxRecDepth 100000 in
theorem ok_3 : (List.range' 36 12).all mOK = true := by decide +kernel
set_option maxRecDepth 100000 in
theorem ok_4 : (List.range' 48 12).all mOK = true := by decide +kernel
set_option maxRecDepth 100000 in
theorem ok_5 : (List.range' 60 12).all mOK = true := by decide +kernel
set_option maxRecDepth 100000 in
theorem ok_6 : (List.range' 72 12).all mOK = true := by decide +kernel
set_option maxRecDepth 100000 in
theorem ok_7 : (List.range' 84 12).all mOK = true := by decide +kernel
set_option maxRecDepth 100000 in
theorem ok_8 : (List.range' 96 12).all mOK = true := by decide +kernel
set_option maxRecDepth 100000 in
theorem ok_9 : (List.range' 108 12).all mOK = true := by decide +kernel
set_option maxRecDepth 100000 in
theorem ok_10 : (List.range' 120 8).all mOK = true := by decide +kernel
set_option maxRecDepth 100000 in
theorem ok_11 : (List.range' 129 5).all mOK = true := by decide +kernel
