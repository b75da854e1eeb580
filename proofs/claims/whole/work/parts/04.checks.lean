/-! the tables hold: by the kernel (printed by wip/gen/checks.py: the places of the words) -/
def gw : List Jvm.Cond := lw_tbl.filter goodWord
def nws : List Jvm.Cond := [.methodLinkNest "PlacingDesk$Board" 50 ⟨"PlacingDesk", "way", "(IIII)I"⟩ "PlacingDesk", .methodLinkNest "PlacingDesk$Board" 62 ⟨"PlacingDesk", "hasBit", "(II)Z"⟩ "PlacingDesk", .methodLinkNest "PlacingDesk$Row" 22 ⟨"PlacingDesk", "hasBit", "(II)Z"⟩ "PlacingDesk", .methodLinkNest "PlacingDesk$Head" 22 ⟨"PlacingDesk", "way", "(IIII)I"⟩ "PlacingDesk", .methodLinkNest "PlacingDesk$Finder" 79 ⟨"PlacingDesk", "hasBit", "(II)Z"⟩ "PlacingDesk", .methodLinkNest "PlacingDesk$Finder" 137 ⟨"PlacingDesk", "way", "(IIII)I"⟩ "PlacingDesk", .methodLinkNest "PlacingDesk$Trip" 124 ⟨"PlacingDesk", "hasBit", "(II)Z"⟩ "PlacingDesk"]
theorem gw_of {w : Jvm.Cond} (h : w ∈ lw_tbl) (h2 : goodWord w = true) : w ∈ gw := List.mem_filter.mpr ⟨h, h2⟩
def subT (k : Nat) : List Jvm.Cond := match k with
  | 0 => k2_sels lw_privs
  | 1 => tables_1_1
  | 2 => tables_1_2
  | 3 => tables_1_3
  | 4 => tables_1_4
  | 5 => tables_1_5
  | _ => []
theorem subT_mem {k : Nat} {w : Jvm.Cond} (h : w ∈ subT k) : w ∈ lw_tbl := by
  unfold lw_tbl tables_1
  simp only [List.mem_append]
  unfold subT at h
  split at h
  · exact Or.inl h
  · exact Or.inr (Or.inl h)
  · exact Or.inr (Or.inr (Or.inl h))
  · exact Or.inr (Or.inr (Or.inr (Or.inl h)))
  · exact Or.inr (Or.inr (Or.inr (Or.inr (Or.inl h))))
  · exact Or.inr (Or.inr (Or.inr (Or.inr (Or.inr h))))
  · exact absurd h List.not_mem_nil
def wAt (i : Nat) (w : Jvm.Cond) : Bool := goodWord w && decide (nth (subT (i / 1000)) (i % 1000) = some w)
theorem gw_nth {k i : Nat} {w : Jvm.Cond} (h : nth (subT k) i = some w) (h2 : goodWord w = true) : w ∈ gw := by
  rw [nth_eq] at h
  exact gw_of (subT_mem (List.mem_of_getElem? h)) h2
theorem gw_at {i : Nat} {w : Jvm.Cond} (h : wAt i w = true) : w ∈ gw := by
  simp only [wAt, Bool.and_eq_true, decide_eq_true_eq] at h
  exact gw_nth h.2 h.1
/-- a check of each of a row with its place -/
def zipAll {α : Type} (f : Nat → α → Bool) : List Nat → List α → Bool
  | _, [] => true
  | i :: is, x :: xs => f i x && zipAll f is xs
  | [], _ :: _ => false
theorem zipAll_mem {α : Type} {f : Nat → α → Bool} : ∀ {is : List Nat} {xs : List α}, zipAll f is xs = true → ∀ x ∈ xs, ∃ i, f i x = true
  | _, [], _, x, hx => absurd hx List.not_mem_nil
  | i :: is, y :: ys, h, x, hx => by
    simp only [zipAll, Bool.and_eq_true] at h
    rcases List.mem_cons.mp hx with rfl | hx
    · exact ⟨i, h.1⟩
    · exact zipAll_mem h.2 x hx
  | [], y :: ys, h, x, hx => by simp [zipAll] at h
def flOK (i : Nat) (q : Nat × Nat × Nat × Nat) : Bool := match nth cls q.2.2.1 with
  | some r => wAt i (.fieldLink (cName q.1) q.2.1 (r.2.1 q.2.2.2).1 (r.2.1 q.2.2.2).2.1 (r.2.1 q.2.2.2).2.2.1) && Nat.ble (q.2.2.2 + 1) r.2.2
  | none => false
def hF : List Nat := [1031, 1033, 1035, 1037, 1039, 1043, 1047, 1051, 1055, 1059, 1219, 1220, 1221, 1222, 1223, 1224, 1216, 1217, 1218, 1040, 1052, 1123, 1113, 1118, 1057, 1111, 1045, 1049, 1130, 1108, 1112, 1117, 1122, 1127, 1175, 1176, 1177, 1178, 1195, 1196, 1191, 1192, 1193, 1194, 1152, 1041, 1056, 1109, 1053, 1180, 1129, 1115, 1125, 1044, 1048, 1120, 1149, 1151, 1155, 1091, 1094, 2016, 2018, 2020, 2022, 2024, 2026, 2027, 2028, 2029, 2030, 2031, 2033, 2035, 2036, 2012, 2013, 2014, 2015, 1153, 1179, 1060, 1054, 1092, 1095, 1131, 1116, 1126, 1046, 1050, 1121, 2074, 2075, 2076, 2077, 2078, 2079, 2080, 1032, 1034, 1036, 1038, 1110, 1114, 1119, 1124, 1128, 1058, 2023, 1154, 1150, 2019, 2021, 2025, 2017, 1181, 2032, 2034, 1093, 1096, 1042, 3238, 3239, 4000, 4001, 4003, 4004, 4005, 4006, 4007, 4008, 4009, 4010, 4011, 4012, 4013, 4015, 4016, 4017, 4018, 4023, 4024, 4025, 4034, 4035, 4036, 4037, 4002, 4014, 4028, 4026, 4022, 4019, 4020, 4021, 4027, 4031, 4032, 4030, 4033, 4029]
set_option maxRecDepth 100000 in
theorem fl_ok : zipAll flOK hF flinks = true := by decide +kernel
def clOK (i : Nat) (q : Nat × Nat × Int32) : Bool := wAt i (.constant (cName q.1) q.2.1 q.2.2)
set_option maxRecDepth 100000 in
theorem cl_ok : zipAll clOK [3061, 3112, 3058, 3059, 3060] clinks = true := by decide +kernel
/-- a class's rows: the words on its fields, types that can be read -/
def csOK (h : List Nat) (r : vw_C) : Bool := zipAll wAt h (u_ws r.1 r.2.1 r.2.2) && ((List.range r.2.2).all (fun k => (parseFieldDescriptor (r.2.1 k).2.2.1).isSome) && (List.range r.2.2).all (fun a => (List.range r.2.2).all (fun b => decide (a = b) || decide ((r.2.1 a).2.1 ≠ (r.2.1 b).2.1))))
set_option maxRecDepth 100000 in
theorem cs_ok0 : csOK [1061, 1063, 1065, 1067, 1069, 1071, 1073, 1075, 1077, 1079] ("PlacingDesk$Board", FT0, 10) = true := by decide +kernel
set_option maxRecDepth 100000 in
theorem cs_ok1 : csOK [1225, 1227, 1229, 1231, 1233, 1235, 1237, 1239, 2001] ("PlacingDesk$Finder", FT1, 9) = true := by decide +kernel
set_option maxRecDepth 100000 in
theorem cs_ok2 : csOK [1132, 1134, 1136, 1138, 1140] ("PlacingDesk$Gear", FT2, 5) = true := by decide +kernel
set_option maxRecDepth 100000 in
theorem cs_ok3 : csOK [1182, 1184, 1186, 1188] ("PlacingDesk$Head", FT3, 4) = true := by decide +kernel
set_option maxRecDepth 100000 in
theorem cs_ok4 : csOK [1197, 1199, 1201, 1203, 1205, 1207] ("PlacingDesk$Reckoner", FT4, 6) = true := by decide +kernel
set_option maxRecDepth 100000 in
theorem cs_ok5 : csOK [1156, 1158, 1160] ("PlacingDesk$Row", FT5, 3) = true := by decide +kernel
set_option maxRecDepth 100000 in
theorem cs_ok6 : csOK [1097, 1099] ("PlacingDesk$Slots", FT6, 2) = true := by decide +kernel
set_option maxRecDepth 100000 in
theorem cs_ok7 : csOK [2037, 2039, 2041, 2043, 2045, 2047, 2049, 2051, 2053, 2055, 2057, 2059, 2061, 2063, 2065, 2067, 2069, 2071] ("PlacingDesk$Trip", FT7, 18) = true := by decide +kernel
set_option maxRecDepth 100000 in
theorem cs_ok8 : csOK [2081, 2083, 2085, 2087, 2089, 2091, 2093] ("PlacingDesk", FT8, 7) = true := by decide +kernel
set_option maxRecDepth 100000 in
theorem cs_ok9 : csOK [4038, 4040, 4042, 4044, 4046, 4048, 4050, 4052, 4054, 4056, 4058, 4060, 4062, 4064, 4066, 4068, 4070, 4072, 4074, 4076, 4078, 4080, 4082, 4084, 4086, 4088, 4090, 4092, 4094, 4096, 4098, 4100, 4102, 4104, 4106, 4108, 4110, 4112, 4114, 4116] ("PlacingDeskModel", FT9, 40) = true := by decide +kernel
/-- a cell's fields: ints and booleans are so declared, and not final -/
def tyOK (f : String × String × String × Bool) (t : Nat) : Bool := match t with
  | 0 => decide (parseFieldDescriptor f.2.2.1 = some .int) && !f.2.2.2
  | 1 => decide (parseFieldDescriptor f.2.2.1 = some .boolean) && !f.2.2.2
  | _ => true
def shOK (s : Shp) : Bool := match s with
  | .inl _ => true
  | .inr (ci, ts) => (match nth cls ci with
    | some r => Nat.beq ts.length r.2.2 && (List.range ts.length).all (fun j => match nth ts j with
      | some t => tyOK (r.2.1 j) t
      | none => false)
    | none => false)
set_option maxRecDepth 100000 in
theorem sh_ok : shapes.all shOK = true := by decide +kernel
def codeW (mi : Nat) : Jvm.Cond := .code (mName mi) (mBytes mi) (mMax mi) (mRet mi)
/-- a method's own words -/
def mwOK (h : Nat × Nat × Nat × Nat) (mi : Nat) : Bool := goodWord (codeW mi) && (plainName (mName mi).cls && (decide ((mName mi).cls = cName (mOwn mi)) && (decide ((mName mi).cls ≠ "java/lang/invoke/MethodHandle") && (decide ((mName mi).cls ≠ "java/lang/invoke/VarHandle") && (decide ((parseMethodDescriptor (mName mi).desc).map (fun d => d.parameters.length) = some (mArgs mi)) && (wAt h.2.1 (.initialized (mName mi).cls) && (Nat.ble (mMax mi) 20 && (match mStat mi with
  | true => wAt h.2.2.1 (.static (mName mi))
  | false => wAt h.2.2.1 (.instanceMethod (mName mi)) && wAt h.2.2.2 (.selects (mName mi).cls (mName mi) (mName mi))))))))))
def isMath (mi : Nat) : Bool := Nat.beq (mOwn mi) 12
def isLaw (mi : Nat) : Bool := Nat.beq mi n_L_law
def mwAll : List (Nat × Nat × Nat × Nat) → Nat → Bool
  | [], _ => true
  | h :: t, mi => (isMath mi || (isLaw mi || mwOK h mi)) && mwAll t (mi + 1)
theorem mwAll_get : ∀ {hs : List (Nat × Nat × Nat × Nat)} {k : Nat}, mwAll hs k = true → ∀ mi, k ≤ mi → mi < k + hs.length → isMath mi = true ∨ isLaw mi = true ∨ ∃ h, mwOK h mi = true
  | [], k, _, mi, h1, h2 => by simp at h2; omega
  | h :: t, k, hh, mi, h1, h2 => by
    simp only [mwAll, Bool.and_eq_true, Bool.or_eq_true] at hh
    by_cases e : mi = k
    · subst e
      rcases hh.1 with h | h | h
      · exact Or.inl h
      · exact Or.inr (Or.inl h)
      · exact Or.inr (Or.inr ⟨_, h⟩)
    · exact mwAll_get hh.2 mi (by omega) (by simp at h2; omega)
set_option maxRecDepth 100000 in
theorem mw_ok0 : mwAll [(2106, 1002, 2104, 2105), (2220, 1002, 2218, 2219), (3022, 1002, 3020, 3021), (2114, 1002, 2112, 2113), (2134, 1002, 2133, 1), (2158, 1002, 2156, 2157), (2127, 1002, 2126, 0), (3230, 1002, 3228, 3229), (3039, 1009, 3037, 3038), (3043, 1009, 3042, 10), (3048, 1009, 3047, 11), (3066, 1009, 3065, 12), (3074, 1009, 3073, 14), (3070, 1009, 3069, 13), (3084, 1009, 3083, 15), (3090, 1009, 3089, 16), (3097, 1009, 3096, 17), (3077, 1009, 3076, 0), (3093, 1009, 3092, 0), (3080, 1009, 3079, 0)] 0 = true := by decide +kernel
set_option maxRecDepth 100000 in
theorem mw_ok1 : mwAll [(3101, 1009, 3099, 3100), (3000, 1008, 2238, 2239), (3031, 1008, 3029, 3030), (3026, 1008, 3024, 3025), (3013, 1008, 3011, 3012), (2200, 1007, 2198, 2199), (2204, 1007, 2203, 5), (2212, 1007, 2211, 6), (2224, 1007, 2223, 7), (2236, 1007, 2234, 2235), (3009, 1007, 3008, 8), (3017, 1007, 3016, 9), (3116, 1007, 3114, 3115), (2142, 1006, 2140, 2141), (2183, 1006, 2181, 2182), (2188, 1006, 2186, 2187), (2208, 1006, 2206, 2207), (2216, 1006, 2214, 2215), (3004, 1006, 3002, 3003), (3226, 1006, 3224, 3225)] 20 = true := by decide +kernel
set_option maxRecDepth 100000 in
theorem mw_ok2 : mwAll [(2166, 1004, 2164, 2165), (2228, 1004, 2226, 2227), (3121, 1004, 3119, 3120), (3138, 1010, 3136, 3137), (3143, 1010, 3141, 3142), (3209, 1010, 3207, 3208), (3149, 1010, 3148, 18), (3166, 1010, 3165, 22), (3158, 1010, 3157, 20), (3153, 1010, 3152, 19), (3162, 1010, 3161, 21), (3171, 1010, 3170, 23), (3176, 1010, 3175, 24), (3180, 1010, 3179, 25), (3187, 1010, 3186, 26), (3191, 1010, 3190, 27), (3196, 1010, 3195, 28), (3201, 1010, 3200, 29), (2099, 1001, 2097, 2098), (2110, 1001, 2108, 2109)] 40 = true := by decide +kernel
set_option maxRecDepth 100000 in
theorem mw_ok3 : mwAll [(2146, 1001, 2144, 2145), (2162, 1001, 2160, 2161), (2170, 1001, 2168, 2169), (2174, 1001, 2172, 2173), (2179, 1001, 2177, 2178), (2192, 1001, 2190, 2191), (2196, 1001, 2194, 2195), (2232, 1001, 2230, 2231), (3035, 1001, 3033, 3034), (3107, 1001, 3105, 3106), (3111, 1001, 3109, 3110), (3126, 1001, 3124, 3125), (3130, 1001, 3128, 3129), (3134, 1001, 3132, 3133), (3205, 1001, 3203, 3204), (3214, 1001, 3212, 3213), (3218, 1001, 3216, 3217), (3222, 1001, 3220, 3221), (2154, 1001, 2153, 4), (2150, 1001, 2149, 3)] 60 = true := by decide +kernel
set_option maxRecDepth 100000 in
theorem mw_ok4 : mwAll [(2138, 1001, 2137, 2), (2102, 1001, 2101, 0), (2130, 1001, 2129, 0), (2117, 1001, 2116, 0), (4125, 1011, 4124, 0), (4152, 1011, 4151, 33), (4136, 1011, 4135, 0), (4211, 1011, 4210, 0), (4122, 1011, 4120, 4121), (4133, 1011, 4132, 30), (4144, 1011, 4143, 32), (4140, 1011, 4139, 31), (4129, 1011, 4127, 4128), (4148, 1011, 4146, 4147), (4156, 1011, 4154, 4155), (4160, 1011, 4158, 4159), (4164, 1011, 4162, 4163), (4168, 1011, 4166, 4167), (4172, 1011, 4170, 4171), (4192, 1011, 4191, 37)] 80 = true := by decide +kernel
set_option maxRecDepth 100000 in
theorem mw_ok5 : mwAll [(4188, 1011, 4187, 36), (4184, 1011, 4183, 35), (4180, 1011, 4179, 34), (4176, 1011, 4174, 4175), (4208, 1011, 4207, 40), (4204, 1011, 4203, 39), (4200, 1011, 4199, 38), (4196, 1011, 4194, 4195), (4231, 1011, 4230, 44), (4223, 1011, 4222, 42), (4227, 1011, 4226, 43), (4215, 1011, 4213, 4214), (4219, 1011, 4218, 41), (4235, 1011, 4233, 4234), (5003, 1011, 5002, 45), (4239, 1011, 4237, 4238), (5007, 1011, 5005, 5006), (5011, 1011, 5009, 5010), (5023, 1011, 5022, 47), (5027, 1011, 5026, 48)] 100 = true := by decide +kernel
set_option maxRecDepth 100000 in
theorem mw_ok6 : mwAll [(5031, 1011, 5030, 49), (5019, 1011, 5018, 46), (5015, 1011, 5013, 5014), (5039, 1011, 5038, 50), (5035, 1011, 5033, 5034), (5043, 1011, 5041, 5042), (5047, 1011, 5045, 5046), (5051, 1011, 5049, 5050), (0, 0, 0, 0), (3057, 1013, 3056, 0), (2120, 1012, 2119, 0), (2123, 1012, 2122, 0), (3052, 1012, 3051, 0), (1030, 1003, 1029, 0)] 120 = true := by decide +kernel
theorem cw_0 : nth (subT 2) 106 = some (codeW 0) := rfl
theorem cw_1 : nth (subT 2) 220 = some (codeW 1) := rfl
theorem cw_2 : nth (subT 3) 22 = some (codeW 2) := rfl
theorem cw_3 : nth (subT 2) 114 = some (codeW 3) := rfl
theorem cw_4 : nth (subT 2) 134 = some (codeW 4) := rfl
theorem cw_5 : nth (subT 2) 158 = some (codeW 5) := rfl
theorem cw_6 : nth (subT 2) 127 = some (codeW 6) := rfl
theorem cw_7 : nth (subT 3) 230 = some (codeW 7) := rfl
theorem cw_8 : nth (subT 3) 39 = some (codeW 8) := rfl
theorem cw_9 : nth (subT 3) 43 = some (codeW 9) := rfl
theorem cw_10 : nth (subT 3) 48 = some (codeW 10) := rfl
theorem cw_11 : nth (subT 3) 66 = some (codeW 11) := rfl
theorem cw_12 : nth (subT 3) 74 = some (codeW 12) := rfl
theorem cw_13 : nth (subT 3) 70 = some (codeW 13) := rfl
theorem cw_14 : nth (subT 3) 84 = some (codeW 14) := rfl
theorem cw_15 : nth (subT 3) 90 = some (codeW 15) := rfl
theorem cw_16 : nth (subT 3) 97 = some (codeW 16) := rfl
theorem cw_17 : nth (subT 3) 77 = some (codeW 17) := rfl
theorem cw_18 : nth (subT 3) 93 = some (codeW 18) := rfl
theorem cw_19 : nth (subT 3) 80 = some (codeW 19) := rfl
theorem cw_20 : nth (subT 3) 101 = some (codeW 20) := rfl
theorem cw_21 : nth (subT 3) 0 = some (codeW 21) := rfl
theorem cw_22 : nth (subT 3) 31 = some (codeW 22) := rfl
theorem cw_23 : nth (subT 3) 26 = some (codeW 23) := rfl
theorem cw_24 : nth (subT 3) 13 = some (codeW 24) := rfl
theorem cw_25 : nth (subT 2) 200 = some (codeW 25) := rfl
theorem cw_26 : nth (subT 2) 204 = some (codeW 26) := rfl
theorem cw_27 : nth (subT 2) 212 = some (codeW 27) := rfl
theorem cw_28 : nth (subT 2) 224 = some (codeW 28) := rfl
theorem cw_29 : nth (subT 2) 236 = some (codeW 29) := rfl
theorem cw_30 : nth (subT 3) 9 = some (codeW 30) := rfl
theorem cw_31 : nth (subT 3) 17 = some (codeW 31) := rfl
theorem cw_32 : nth (subT 3) 116 = some (codeW 32) := rfl
theorem cw_33 : nth (subT 2) 142 = some (codeW 33) := rfl
theorem cw_34 : nth (subT 2) 183 = some (codeW 34) := rfl
theorem cw_35 : nth (subT 2) 188 = some (codeW 35) := rfl
theorem cw_36 : nth (subT 2) 208 = some (codeW 36) := rfl
theorem cw_37 : nth (subT 2) 216 = some (codeW 37) := rfl
theorem cw_38 : nth (subT 3) 4 = some (codeW 38) := rfl
theorem cw_39 : nth (subT 3) 226 = some (codeW 39) := rfl
theorem cw_40 : nth (subT 2) 166 = some (codeW 40) := rfl
theorem cw_41 : nth (subT 2) 228 = some (codeW 41) := rfl
theorem cw_42 : nth (subT 3) 121 = some (codeW 42) := rfl
theorem cw_43 : nth (subT 3) 138 = some (codeW 43) := rfl
theorem cw_44 : nth (subT 3) 143 = some (codeW 44) := rfl
theorem cw_45 : nth (subT 3) 209 = some (codeW 45) := rfl
theorem cw_46 : nth (subT 3) 149 = some (codeW 46) := rfl
theorem cw_47 : nth (subT 3) 166 = some (codeW 47) := rfl
theorem cw_48 : nth (subT 3) 158 = some (codeW 48) := rfl
theorem cw_49 : nth (subT 3) 153 = some (codeW 49) := rfl
theorem cw_50 : nth (subT 3) 162 = some (codeW 50) := rfl
theorem cw_51 : nth (subT 3) 171 = some (codeW 51) := rfl
theorem cw_52 : nth (subT 3) 176 = some (codeW 52) := rfl
theorem cw_53 : nth (subT 3) 180 = some (codeW 53) := rfl
theorem cw_54 : nth (subT 3) 187 = some (codeW 54) := rfl
theorem cw_55 : nth (subT 3) 191 = some (codeW 55) := rfl
theorem cw_56 : nth (subT 3) 196 = some (codeW 56) := rfl
theorem cw_57 : nth (subT 3) 201 = some (codeW 57) := rfl
theorem cw_58 : nth (subT 2) 99 = some (codeW 58) := rfl
theorem cw_59 : nth (subT 2) 110 = some (codeW 59) := rfl
theorem cw_60 : nth (subT 2) 146 = some (codeW 60) := rfl
theorem cw_61 : nth (subT 2) 162 = some (codeW 61) := rfl
theorem cw_62 : nth (subT 2) 170 = some (codeW 62) := rfl
theorem cw_63 : nth (subT 2) 174 = some (codeW 63) := rfl
theorem cw_64 : nth (subT 2) 179 = some (codeW 64) := rfl
theorem cw_65 : nth (subT 2) 192 = some (codeW 65) := rfl
theorem cw_66 : nth (subT 2) 196 = some (codeW 66) := rfl
theorem cw_67 : nth (subT 2) 232 = some (codeW 67) := rfl
theorem cw_68 : nth (subT 3) 35 = some (codeW 68) := rfl
theorem cw_69 : nth (subT 3) 107 = some (codeW 69) := rfl
theorem cw_70 : nth (subT 3) 111 = some (codeW 70) := rfl
theorem cw_71 : nth (subT 3) 126 = some (codeW 71) := rfl
theorem cw_72 : nth (subT 3) 130 = some (codeW 72) := rfl
theorem cw_73 : nth (subT 3) 134 = some (codeW 73) := rfl
theorem cw_74 : nth (subT 3) 205 = some (codeW 74) := rfl
theorem cw_75 : nth (subT 3) 214 = some (codeW 75) := rfl
theorem cw_76 : nth (subT 3) 218 = some (codeW 76) := rfl
theorem cw_77 : nth (subT 3) 222 = some (codeW 77) := rfl
theorem cw_78 : nth (subT 2) 154 = some (codeW 78) := rfl
theorem cw_79 : nth (subT 2) 150 = some (codeW 79) := rfl
theorem cw_80 : nth (subT 2) 138 = some (codeW 80) := rfl
theorem cw_81 : nth (subT 2) 102 = some (codeW 81) := rfl
theorem cw_82 : nth (subT 2) 130 = some (codeW 82) := rfl
theorem cw_83 : nth (subT 2) 117 = some (codeW 83) := rfl
theorem cw_84 : nth (subT 4) 125 = some (codeW 84) := rfl
theorem cw_85 : nth (subT 4) 152 = some (codeW 85) := rfl
theorem cw_86 : nth (subT 4) 136 = some (codeW 86) := rfl
theorem cw_87 : nth (subT 4) 211 = some (codeW 87) := rfl
theorem cw_88 : nth (subT 4) 122 = some (codeW 88) := rfl
theorem cw_89 : nth (subT 4) 133 = some (codeW 89) := rfl
theorem cw_90 : nth (subT 4) 144 = some (codeW 90) := rfl
theorem cw_91 : nth (subT 4) 140 = some (codeW 91) := rfl
theorem cw_92 : nth (subT 4) 129 = some (codeW 92) := rfl
theorem cw_93 : nth (subT 4) 148 = some (codeW 93) := rfl
theorem cw_94 : nth (subT 4) 156 = some (codeW 94) := rfl
theorem cw_95 : nth (subT 4) 160 = some (codeW 95) := rfl
theorem cw_96 : nth (subT 4) 164 = some (codeW 96) := rfl
theorem cw_97 : nth (subT 4) 168 = some (codeW 97) := rfl
theorem cw_98 : nth (subT 4) 172 = some (codeW 98) := rfl
theorem cw_99 : nth (subT 4) 192 = some (codeW 99) := rfl
theorem cw_100 : nth (subT 4) 188 = some (codeW 100) := rfl
theorem cw_101 : nth (subT 4) 184 = some (codeW 101) := rfl
theorem cw_102 : nth (subT 4) 180 = some (codeW 102) := rfl
theorem cw_103 : nth (subT 4) 176 = some (codeW 103) := rfl
theorem cw_104 : nth (subT 4) 208 = some (codeW 104) := rfl
theorem cw_105 : nth (subT 4) 204 = some (codeW 105) := rfl
theorem cw_106 : nth (subT 4) 200 = some (codeW 106) := rfl
theorem cw_107 : nth (subT 4) 196 = some (codeW 107) := rfl
theorem cw_108 : nth (subT 4) 231 = some (codeW 108) := rfl
theorem cw_109 : nth (subT 4) 223 = some (codeW 109) := rfl
theorem cw_110 : nth (subT 4) 227 = some (codeW 110) := rfl
theorem cw_111 : nth (subT 4) 215 = some (codeW 111) := rfl
theorem cw_112 : nth (subT 4) 219 = some (codeW 112) := rfl
theorem cw_113 : nth (subT 4) 235 = some (codeW 113) := rfl
theorem cw_114 : nth (subT 5) 3 = some (codeW 114) := rfl
theorem cw_115 : nth (subT 4) 239 = some (codeW 115) := rfl
theorem cw_116 : nth (subT 5) 7 = some (codeW 116) := rfl
theorem cw_117 : nth (subT 5) 11 = some (codeW 117) := rfl
theorem cw_118 : nth (subT 5) 23 = some (codeW 118) := rfl
theorem cw_119 : nth (subT 5) 27 = some (codeW 119) := rfl
theorem cw_120 : nth (subT 5) 31 = some (codeW 120) := rfl
theorem cw_121 : nth (subT 5) 19 = some (codeW 121) := rfl
theorem cw_122 : nth (subT 5) 15 = some (codeW 122) := rfl
theorem cw_123 : nth (subT 5) 39 = some (codeW 123) := rfl
theorem cw_124 : nth (subT 5) 35 = some (codeW 124) := rfl
theorem cw_125 : nth (subT 5) 43 = some (codeW 125) := rfl
theorem cw_126 : nth (subT 5) 47 = some (codeW 126) := rfl
theorem cw_127 : nth (subT 5) 51 = some (codeW 127) := rfl
theorem cw_129 : nth (subT 3) 57 = some (codeW 129) := rfl
theorem cw_130 : nth (subT 2) 120 = some (codeW 130) := rfl
theorem cw_131 : nth (subT 2) 123 = some (codeW 131) := rfl
theorem cw_132 : nth (subT 3) 52 = some (codeW 132) := rfl
theorem cw_133 : nth (subT 1) 30 = some (codeW 133) := rfl
def lkW (i : Nat) (q : Nat × Nat × Nat × Bool) : Bool := match q.2.2.2 with
  | false => wAt i (.methodLink (cName q.1) q.2.1 (mName q.2.2.1))
  | true => decide (nth nws i = some (.methodLinkNest (cName q.1) q.2.1 (mName q.2.2.1) "PlacingDesk")) && mStat q.2.2.1
def hL : List Nat := [1028, 0, 2124, 2131, 1, 3231, 3040, 3045, 3062, 3063, 3067, 3044, 4, 3050, 3053, 3054, 3055, 3071, 3075, 3081, 3085, 5, 3087, 3091, 3094, 3078, 3102, 3103, 3, 2201, 2209, 2221, 2205, 2213, 2217, 2225, 2237, 3001, 3006, 3010, 3014, 3023, 3028, 3018, 3019, 3117, 3118, 2, 3005, 1090, 3122, 3139, 3144, 3145, 3146, 3210, 3150, 3159, 3168, 3177, 3193, 3198, 6, 3154, 3155, 3163, 3172, 3173, 3181, 3182, 3183, 3184, 3188, 3192, 3197, 2100, 2103, 2111, 2135, 2147, 2155, 2163, 2175, 2151, 2180, 2185, 2197, 2233, 3036, 3098, 3113, 3135, 3140, 3206, 3223, 3227, 2139, 2118, 2121, 4123, 4134, 4130, 4141, 4137, 4149, 4181, 4185, 4189, 4177, 4209, 4201, 4205, 4197, 4216, 4220, 4224, 4228, 5000, 5020, 5024, 5028, 5016, 5036, 2096, 4119, 2107, 4126, 2143, 4145, 2159, 4157, 2167, 4161, 2171, 4153, 2176, 4165, 2189, 4169, 2193, 4173, 2229, 4193, 3032, 4212, 3104, 4232, 3108, 4236, 3123, 5004, 3127, 5008, 3131, 5012, 3202, 5032, 3211, 5040, 3215, 5044, 3219, 5048]
set_option maxRecDepth 100000 in
theorem lk_ok : zipAll lkW hL mlinks = true := by decide +kernel
