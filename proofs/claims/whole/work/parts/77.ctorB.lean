/-! printed by wip/gen/ctors.py: constructors -/
section CT1
variable (l : Launch) (D : va_G) (cI cZ : ClassId)
def Rs_Board (cI cZ : ClassId) (ws0 : va_W) (h : Nat) (ws : va_W) : Prop := ∃ (q1 : Nat) (q2 : Nat) (q3 : Nat) (q4 : Nat) (q5 : Nat) (q6 : Nat) (q7 : Nat) (q8 : Nat) (q9 : Nat) (f1 : Nat → Int32) (f2 : Nat → Int32), (∀ j, j < 8 → f1 j = 1) ∧ (∀ j, j < 8 → f2 j = 1) ∧ ws = ws0 ++ [(h, .inr (0, [.ref q1, .ref q2, .ref q3, .ref q4, .int 0, .ref q5, .ref q6, .ref q7, .ref q8, .ref q9])), (q1, .inl (cI, 8, .inl f1)), (q2, .inl (cI, 8, .inl f2)), (q3, .inl (cI, 8, .inl (fun _ => 0))), (q4, .inl (cZ, 8, .inl (fun _ => 0))), (q5, .inl (cI, 10, .inl (fun _ => 0))), (q6, .inl (cI, 10, .inl (fun _ => 0))), (q7, .inl (cI, 10, .inl (fun _ => 0))), (q8, .inl (cI, 10, .inl (fun _ => 0))), (q9, .inl (cI, 10, .inl (fun _ => 0)))]
theorem cw_I_Board : Cond.code ⟨"PlacingDesk$Board", "<init>", "()V"⟩ prog_2_method_1_code 1 none ∈ gw := gw_nth (k := 1) (i := 26) rfl rfl
set_option maxHeartbeats 4000000 in
set_option maxRecDepth 100000 in
theorem c_I_Board (ws0 : va_W) (h : Nat) : IC l D cI cZ 1 9 82 ⟨"PlacingDesk$Board", "<init>", "()V"⟩ prog_2_method_1_code 1 [.ref h] (ws0 ++ [(h, .inr (0, [.null, .null, .null, .null, .int 0, .null, .null, .null, .null, .null]))]) (Rs_Board cI cZ ws0 h) := by
  refine IC_of l D cI cZ (o := 0) (by decide) (by decide) (Nat.le_of_ble_eq_true rfl) ?_
  intro p e s m args below meth c A ls hc hn hr hlk hl
  have hI := w_arrI
  have hZ := w_arrZ
  have ho3 := cw_I_obj
  have hl : lv_has ls 1 [(0, .ref h)] := hl
  refine kw_load l D cI cZ (pc := 0) (.aload_n 0) 1 0 (by decide +kernel) rfl (lv_at hl 0 rfl) hc ?_
  refine kw_obj l D cI cZ (pc := 1) (idx := 3) (by decide +kernel) (gw_at (i := 1027) (by decide +kernel)) (gw_at (i := 1020) (by decide +kernel)) ho3 hl.1 ⟨Nat.le_of_ble_eq_true rfl, Nat.le_of_ble_eq_true rfl⟩ hc ?_
  refine kw_load l D cI cZ (pc := 4) (.aload_n 0) 1 0 (by decide +kernel) rfl (lv_at hl 0 rfl) hc ?_
  refine kw_push l D cI cZ (pc := 5) (.bipush 8) 2 (8) (by decide +kernel) (by decide) hc ?_
  refine kw_newI l D cI cZ (pc := 7) 8 rfl (by decide) hI ⟨Nat.le_of_ble_eq_true rfl, Nat.le_of_ble_eq_true rfl⟩ (by decide +kernel) hc (fun q1 => ?_)
  refine kw_as [(h, .inr (0, [.null, .null, .null, .null, .int 0, .null, .null, .null, .null, .null])), (q1, .inl (cI, 8, .inl (fun _ => 0)))] rfl ?_
  refine kw_putR l D cI cZ (pc := 9) (idx := 9) (ci := 0) (k := 0) (fs' := [.ref q1, .null, .null, .null, .int 0, .null, .null, .null, .null, .null]) (by decide +kernel) (Nat.le_of_ble_eq_true rfl) rfl (by decide +kernel) hn hc ?_
  refine kw_load l D cI cZ (pc := 12) (.aload_n 0) 1 0 (by decide +kernel) rfl (lv_at hl 0 rfl) hc ?_
  refine kw_push l D cI cZ (pc := 13) (.bipush 8) 2 (8) (by decide +kernel) (by decide) hc ?_
  refine kw_newI l D cI cZ (pc := 15) 8 rfl (by decide) hI ⟨Nat.le_of_ble_eq_true rfl, Nat.le_of_ble_eq_true rfl⟩ (by decide +kernel) hc (fun q2 => ?_)
  refine kw_as [(h, .inr (0, [.ref q1, .null, .null, .null, .int 0, .null, .null, .null, .null, .null])), (q1, .inl (cI, 8, .inl (fun _ => 0))), (q2, .inl (cI, 8, .inl (fun _ => 0)))] rfl ?_
  refine kw_putR l D cI cZ (pc := 17) (idx := 15) (ci := 0) (k := 1) (fs' := [.ref q1, .ref q2, .null, .null, .int 0, .null, .null, .null, .null, .null]) (by decide +kernel) (Nat.le_of_ble_eq_true rfl) rfl (by decide +kernel) hn hc ?_
  refine kw_load l D cI cZ (pc := 20) (.aload_n 0) 1 0 (by decide +kernel) rfl (lv_at hl 0 rfl) hc ?_
  refine kw_push l D cI cZ (pc := 21) (.bipush 8) 2 (8) (by decide +kernel) (by decide) hc ?_
  refine kw_newI l D cI cZ (pc := 23) 8 rfl (by decide) hI ⟨Nat.le_of_ble_eq_true rfl, Nat.le_of_ble_eq_true rfl⟩ (by decide +kernel) hc (fun q3 => ?_)
  refine kw_as [(h, .inr (0, [.ref q1, .ref q2, .null, .null, .int 0, .null, .null, .null, .null, .null])), (q1, .inl (cI, 8, .inl (fun _ => 0))), (q2, .inl (cI, 8, .inl (fun _ => 0))), (q3, .inl (cI, 8, .inl (fun _ => 0)))] rfl ?_
  refine kw_putR l D cI cZ (pc := 25) (idx := 18) (ci := 0) (k := 2) (fs' := [.ref q1, .ref q2, .ref q3, .null, .int 0, .null, .null, .null, .null, .null]) (by decide +kernel) (Nat.le_of_ble_eq_true rfl) rfl (by decide +kernel) hn hc ?_
  refine kw_load l D cI cZ (pc := 28) (.aload_n 0) 1 0 (by decide +kernel) rfl (lv_at hl 0 rfl) hc ?_
  refine kw_push l D cI cZ (pc := 29) (.bipush 8) 2 (8) (by decide +kernel) (by decide) hc ?_
  refine kw_newZ l D cI cZ (pc := 31) 8 rfl (by decide) hZ ⟨Nat.le_of_ble_eq_true rfl, Nat.le_of_ble_eq_true rfl⟩ (by decide +kernel) hc (fun q4 => ?_)
  refine kw_as [(h, .inr (0, [.ref q1, .ref q2, .ref q3, .null, .int 0, .null, .null, .null, .null, .null])), (q1, .inl (cI, 8, .inl (fun _ => 0))), (q2, .inl (cI, 8, .inl (fun _ => 0))), (q3, .inl (cI, 8, .inl (fun _ => 0))), (q4, .inl (cZ, 8, .inl (fun _ => 0)))] rfl ?_
  refine kw_putR l D cI cZ (pc := 33) (idx := 21) (ci := 0) (k := 3) (fs' := [.ref q1, .ref q2, .ref q3, .ref q4, .int 0, .null, .null, .null, .null, .null]) (by decide +kernel) (Nat.le_of_ble_eq_true rfl) rfl (by decide +kernel) hn hc ?_
  refine kw_load l D cI cZ (pc := 36) (.aload_n 0) 1 0 (by decide +kernel) rfl (lv_at hl 0 rfl) hc ?_
  refine kw_push l D cI cZ (pc := 37) (.iconst 0) 1 (0) (by decide +kernel) (by decide) hc ?_
  refine kw_putV l D cI cZ (pc := 38) (idx := 25) (ci := 0) (k := 4) (fs' := [.ref q1, .ref q2, .ref q3, .ref q4, .int 0, .null, .null, .null, .null, .null]) (by decide +kernel) (Nat.le_of_ble_eq_true rfl) rfl (by decide +kernel) hn hc ?_
  refine kw_load l D cI cZ (pc := 41) (.aload_n 0) 1 0 (by decide +kernel) rfl (lv_at hl 0 rfl) hc ?_
  refine kw_push l D cI cZ (pc := 42) (.bipush 10) 2 (10) (by decide +kernel) (by decide) hc ?_
  refine kw_newI l D cI cZ (pc := 44) 10 rfl (by decide) hI ⟨Nat.le_of_ble_eq_true rfl, Nat.le_of_ble_eq_true rfl⟩ (by decide +kernel) hc (fun q5 => ?_)
  refine kw_as [(h, .inr (0, [.ref q1, .ref q2, .ref q3, .ref q4, .int 0, .null, .null, .null, .null, .null])), (q1, .inl (cI, 8, .inl (fun _ => 0))), (q2, .inl (cI, 8, .inl (fun _ => 0))), (q3, .inl (cI, 8, .inl (fun _ => 0))), (q4, .inl (cZ, 8, .inl (fun _ => 0))), (q5, .inl (cI, 10, .inl (fun _ => 0)))] rfl ?_
  refine kw_putR l D cI cZ (pc := 46) (idx := 29) (ci := 0) (k := 5) (fs' := [.ref q1, .ref q2, .ref q3, .ref q4, .int 0, .ref q5, .null, .null, .null, .null]) (by decide +kernel) (Nat.le_of_ble_eq_true rfl) rfl (by decide +kernel) hn hc ?_
  refine kw_load l D cI cZ (pc := 49) (.aload_n 0) 1 0 (by decide +kernel) rfl (lv_at hl 0 rfl) hc ?_
  refine kw_push l D cI cZ (pc := 50) (.bipush 10) 2 (10) (by decide +kernel) (by decide) hc ?_
  refine kw_newI l D cI cZ (pc := 52) 10 rfl (by decide) hI ⟨Nat.le_of_ble_eq_true rfl, Nat.le_of_ble_eq_true rfl⟩ (by decide +kernel) hc (fun q6 => ?_)
  refine kw_as [(h, .inr (0, [.ref q1, .ref q2, .ref q3, .ref q4, .int 0, .ref q5, .null, .null, .null, .null])), (q1, .inl (cI, 8, .inl (fun _ => 0))), (q2, .inl (cI, 8, .inl (fun _ => 0))), (q3, .inl (cI, 8, .inl (fun _ => 0))), (q4, .inl (cZ, 8, .inl (fun _ => 0))), (q5, .inl (cI, 10, .inl (fun _ => 0))), (q6, .inl (cI, 10, .inl (fun _ => 0)))] rfl ?_
  refine kw_putR l D cI cZ (pc := 54) (idx := 32) (ci := 0) (k := 6) (fs' := [.ref q1, .ref q2, .ref q3, .ref q4, .int 0, .ref q5, .ref q6, .null, .null, .null]) (by decide +kernel) (Nat.le_of_ble_eq_true rfl) rfl (by decide +kernel) hn hc ?_
  refine kw_load l D cI cZ (pc := 57) (.aload_n 0) 1 0 (by decide +kernel) rfl (lv_at hl 0 rfl) hc ?_
  refine kw_push l D cI cZ (pc := 58) (.bipush 10) 2 (10) (by decide +kernel) (by decide) hc ?_
  refine kw_newI l D cI cZ (pc := 60) 10 rfl (by decide) hI ⟨Nat.le_of_ble_eq_true rfl, Nat.le_of_ble_eq_true rfl⟩ (by decide +kernel) hc (fun q7 => ?_)
  refine kw_as [(h, .inr (0, [.ref q1, .ref q2, .ref q3, .ref q4, .int 0, .ref q5, .ref q6, .null, .null, .null])), (q1, .inl (cI, 8, .inl (fun _ => 0))), (q2, .inl (cI, 8, .inl (fun _ => 0))), (q3, .inl (cI, 8, .inl (fun _ => 0))), (q4, .inl (cZ, 8, .inl (fun _ => 0))), (q5, .inl (cI, 10, .inl (fun _ => 0))), (q6, .inl (cI, 10, .inl (fun _ => 0))), (q7, .inl (cI, 10, .inl (fun _ => 0)))] rfl ?_
  refine kw_putR l D cI cZ (pc := 62) (idx := 35) (ci := 0) (k := 7) (fs' := [.ref q1, .ref q2, .ref q3, .ref q4, .int 0, .ref q5, .ref q6, .ref q7, .null, .null]) (by decide +kernel) (Nat.le_of_ble_eq_true rfl) rfl (by decide +kernel) hn hc ?_
  refine kw_load l D cI cZ (pc := 65) (.aload_n 0) 1 0 (by decide +kernel) rfl (lv_at hl 0 rfl) hc ?_
  refine kw_push l D cI cZ (pc := 66) (.bipush 10) 2 (10) (by decide +kernel) (by decide) hc ?_
  refine kw_newI l D cI cZ (pc := 68) 10 rfl (by decide) hI ⟨Nat.le_of_ble_eq_true rfl, Nat.le_of_ble_eq_true rfl⟩ (by decide +kernel) hc (fun q8 => ?_)
  refine kw_as [(h, .inr (0, [.ref q1, .ref q2, .ref q3, .ref q4, .int 0, .ref q5, .ref q6, .ref q7, .null, .null])), (q1, .inl (cI, 8, .inl (fun _ => 0))), (q2, .inl (cI, 8, .inl (fun _ => 0))), (q3, .inl (cI, 8, .inl (fun _ => 0))), (q4, .inl (cZ, 8, .inl (fun _ => 0))), (q5, .inl (cI, 10, .inl (fun _ => 0))), (q6, .inl (cI, 10, .inl (fun _ => 0))), (q7, .inl (cI, 10, .inl (fun _ => 0))), (q8, .inl (cI, 10, .inl (fun _ => 0)))] rfl ?_
  refine kw_putR l D cI cZ (pc := 70) (idx := 38) (ci := 0) (k := 8) (fs' := [.ref q1, .ref q2, .ref q3, .ref q4, .int 0, .ref q5, .ref q6, .ref q7, .ref q8, .null]) (by decide +kernel) (Nat.le_of_ble_eq_true rfl) rfl (by decide +kernel) hn hc ?_
  refine kw_load l D cI cZ (pc := 73) (.aload_n 0) 1 0 (by decide +kernel) rfl (lv_at hl 0 rfl) hc ?_
  refine kw_push l D cI cZ (pc := 74) (.bipush 10) 2 (10) (by decide +kernel) (by decide) hc ?_
  refine kw_newI l D cI cZ (pc := 76) 10 rfl (by decide) hI ⟨Nat.le_of_ble_eq_true rfl, Nat.le_of_ble_eq_true rfl⟩ (by decide +kernel) hc (fun q9 => ?_)
  refine kw_as [(h, .inr (0, [.ref q1, .ref q2, .ref q3, .ref q4, .int 0, .ref q5, .ref q6, .ref q7, .ref q8, .null])), (q1, .inl (cI, 8, .inl (fun _ => 0))), (q2, .inl (cI, 8, .inl (fun _ => 0))), (q3, .inl (cI, 8, .inl (fun _ => 0))), (q4, .inl (cZ, 8, .inl (fun _ => 0))), (q5, .inl (cI, 10, .inl (fun _ => 0))), (q6, .inl (cI, 10, .inl (fun _ => 0))), (q7, .inl (cI, 10, .inl (fun _ => 0))), (q8, .inl (cI, 10, .inl (fun _ => 0))), (q9, .inl (cI, 10, .inl (fun _ => 0)))] rfl ?_
  refine kw_putR l D cI cZ (pc := 78) (idx := 41) (ci := 0) (k := 9) (fs' := [.ref q1, .ref q2, .ref q3, .ref q4, .int 0, .ref q5, .ref q6, .ref q7, .ref q8, .ref q9]) (by decide +kernel) (Nat.le_of_ble_eq_true rfl) rfl (by decide +kernel) hn hc ?_
  refine kw_load l D cI cZ (pc := 81) (.aload_n 0) 1 0 (by decide +kernel) rfl (lv_at hl 0 rfl) hc ?_
  refine kw_get l D cI cZ (pc := 82) (idx := 9) (ci := 0) (k := 0) (by decide +kernel) rfl (by decide +kernel) hc ?_
  refine kw_push l D cI cZ (pc := 85) (.iconst 1) 1 (1) (by decide +kernel) (by decide) hc ?_
  refine kw_sa [(h, .inr (0, [.ref q1, .ref q2, .ref q3, .ref q4, .int 0, .ref q5, .ref q6, .ref q7, .ref q8, .ref q9]))] [(q1, .inl (cI, 8, .inl (fun _ => 0))), (q2, .inl (cI, 8, .inl (fun _ => 0))), (q3, .inl (cI, 8, .inl (fun _ => 0))), (q4, .inl (cZ, 8, .inl (fun _ => 0))), (q5, .inl (cI, 10, .inl (fun _ => 0))), (q6, .inl (cI, 10, .inl (fun _ => 0))), (q7, .inl (cI, 10, .inl (fun _ => 0))), (q8, .inl (cI, 10, .inl (fun _ => 0))), (q9, .inl (cI, 10, .inl (fun _ => 0)))] rfl ?_
  refine kw_stat l D cI cZ (pc := 86) (idx := 44) (As := [.ref q1, .int (1)]) (rest := []) (c_I_fill l D cI cZ (ws0 ++ [(h, .inr (0, [.ref q1, .ref q2, .ref q3, .ref q4, .int 0, .ref q5, .ref q6, .ref q7, .ref q8, .ref q9]))]) [(q2, .inl (cI, 8, .inl (fun _ => 0))), (q3, .inl (cI, 8, .inl (fun _ => 0))), (q4, .inl (cZ, 8, .inl (fun _ => 0))), (q5, .inl (cI, 10, .inl (fun _ => 0))), (q6, .inl (cI, 10, .inl (fun _ => 0))), (q7, .inl (cI, 10, .inl (fun _ => 0))), (q8, .inl (cI, 10, .inl (fun _ => 0))), (q9, .inl (cI, 10, .inl (fun _ => 0)))] q1 (fun _ => 0) (1)) cw_I_fill (gw_at (i := 1028) (by decide +kernel)) (gw_at (i := 1029) (by decide +kernel)) (gw_at (i := 1003) (by decide +kernel)) (show nameOK y_fill 2 = true by decide +kernel) (by decide) ⟨Nat.le_of_ble_eq_true rfl, Nat.le_of_ble_eq_true rfl⟩ ⟨Nat.le_of_ble_eq_true rfl, Nat.le_of_ble_eq_true rfl⟩ hl.1 (Nat.le_of_ble_eq_true rfl) (by decide +kernel) hc (fun ws' hws => ?_)
  obtain ⟨f1, ef1, rfl⟩ := hws
  refine kw_as [(h, .inr (0, [.ref q1, .ref q2, .ref q3, .ref q4, .int 0, .ref q5, .ref q6, .ref q7, .ref q8, .ref q9])), (q1, .inl (cI, 8, .inl f1)), (q2, .inl (cI, 8, .inl (fun _ => 0))), (q3, .inl (cI, 8, .inl (fun _ => 0))), (q4, .inl (cZ, 8, .inl (fun _ => 0))), (q5, .inl (cI, 10, .inl (fun _ => 0))), (q6, .inl (cI, 10, .inl (fun _ => 0))), (q7, .inl (cI, 10, .inl (fun _ => 0))), (q8, .inl (cI, 10, .inl (fun _ => 0))), (q9, .inl (cI, 10, .inl (fun _ => 0)))] rfl ?_
  refine kw_load l D cI cZ (pc := 89) (.aload_n 0) 1 0 (by decide +kernel) rfl (lv_at hl 0 rfl) hc ?_
  refine kw_get l D cI cZ (pc := 90) (idx := 15) (ci := 0) (k := 1) (by decide +kernel) rfl (by decide +kernel) hc ?_
  refine kw_push l D cI cZ (pc := 93) (.iconst 1) 1 (1) (by decide +kernel) (by decide) hc ?_
  refine kw_sa [(h, .inr (0, [.ref q1, .ref q2, .ref q3, .ref q4, .int 0, .ref q5, .ref q6, .ref q7, .ref q8, .ref q9])), (q1, .inl (cI, 8, .inl f1))] [(q2, .inl (cI, 8, .inl (fun _ => 0))), (q3, .inl (cI, 8, .inl (fun _ => 0))), (q4, .inl (cZ, 8, .inl (fun _ => 0))), (q5, .inl (cI, 10, .inl (fun _ => 0))), (q6, .inl (cI, 10, .inl (fun _ => 0))), (q7, .inl (cI, 10, .inl (fun _ => 0))), (q8, .inl (cI, 10, .inl (fun _ => 0))), (q9, .inl (cI, 10, .inl (fun _ => 0)))] rfl ?_
  refine kw_stat l D cI cZ (pc := 94) (idx := 44) (As := [.ref q2, .int (1)]) (rest := []) (c_I_fill l D cI cZ (ws0 ++ [(h, .inr (0, [.ref q1, .ref q2, .ref q3, .ref q4, .int 0, .ref q5, .ref q6, .ref q7, .ref q8, .ref q9])), (q1, .inl (cI, 8, .inl f1))]) [(q3, .inl (cI, 8, .inl (fun _ => 0))), (q4, .inl (cZ, 8, .inl (fun _ => 0))), (q5, .inl (cI, 10, .inl (fun _ => 0))), (q6, .inl (cI, 10, .inl (fun _ => 0))), (q7, .inl (cI, 10, .inl (fun _ => 0))), (q8, .inl (cI, 10, .inl (fun _ => 0))), (q9, .inl (cI, 10, .inl (fun _ => 0)))] q2 (fun _ => 0) (1)) cw_I_fill (gw_at (i := 1028) (by decide +kernel)) (gw_at (i := 1029) (by decide +kernel)) (gw_at (i := 1003) (by decide +kernel)) (show nameOK y_fill 2 = true by decide +kernel) (by decide) ⟨Nat.le_of_ble_eq_true rfl, Nat.le_of_ble_eq_true rfl⟩ ⟨Nat.le_of_ble_eq_true rfl, Nat.le_of_ble_eq_true rfl⟩ hl.1 (Nat.le_of_ble_eq_true rfl) (by decide +kernel) hc (fun ws' hws => ?_)
  obtain ⟨f2, ef2, rfl⟩ := hws
  refine kw_as [(h, .inr (0, [.ref q1, .ref q2, .ref q3, .ref q4, .int 0, .ref q5, .ref q6, .ref q7, .ref q8, .ref q9])), (q1, .inl (cI, 8, .inl f1)), (q2, .inl (cI, 8, .inl f2)), (q3, .inl (cI, 8, .inl (fun _ => 0))), (q4, .inl (cZ, 8, .inl (fun _ => 0))), (q5, .inl (cI, 10, .inl (fun _ => 0))), (q6, .inl (cI, 10, .inl (fun _ => 0))), (q7, .inl (cI, 10, .inl (fun _ => 0))), (q8, .inl (cI, 10, .inl (fun _ => 0))), (q9, .inl (cI, 10, .inl (fun _ => 0)))] rfl ?_
  exact kw_ret l D cI cZ (pc := 97) hr hlk (by decide +kernel) hc ⟨q1, q2, q3, q4, q5, q6, q7, q8, q9, f1, f2, ef1, ef2, rfl⟩
def Rs_Reckoner (cI cZ : ClassId) (ws0 : va_W) (h g1 g2 g3 g4 : Nat) (ws : va_W) : Prop := ∃ (q1 : Nat) (q2 : Nat), ws = ws0 ++ [(h, .inr (4, [.ref g1, .ref g2, .ref g3, .ref g4, .ref q1, .ref q2])), (q1, .inr (3, [.int 0, .int 0, .int 0, .int 0])), (q2, .inl (cI, 8, .inl (fun _ => 0)))]
theorem cw_I_Reckoner : Cond.code ⟨"PlacingDesk$Reckoner", "<init>", "(LPlacingDesk$Board;LPlacingDesk$Slots;LPlacingDesk$Gear;LPlacingDesk$Row;)V"⟩ prog_6_method_1_code 5 none ∈ gw := gw_nth (k := 1) (i := 167) rfl rfl
set_option maxHeartbeats 4000000 in
set_option maxRecDepth 100000 in
theorem c_I_Reckoner (ws0 : va_W) (h g1 g2 g3 g4 : Nat) : IC l D cI cZ 1 2 12 ⟨"PlacingDesk$Reckoner", "<init>", "(LPlacingDesk$Board;LPlacingDesk$Slots;LPlacingDesk$Gear;LPlacingDesk$Row;)V"⟩ prog_6_method_1_code 5 [.ref h, .ref g1, .ref g2, .ref g3, .ref g4] (ws0 ++ [(h, .inr (4, [.null, .null, .null, .null, .null, .null]))]) (Rs_Reckoner cI cZ ws0 h g1 g2 g3 g4) := by
  refine IC_of l D cI cZ (o := 4) (by decide) (by decide) (Nat.le_of_ble_eq_true rfl) ?_
  intro p e s m args below meth c A ls hc hn hr hlk hl
  have hI := w_arrI
  have hZ := w_arrZ
  have ho3 := cw_I_obj
  have hl : lv_has ls 5 [(0, .ref h), (1, .ref g1), (2, .ref g2), (3, .ref g3), (4, .ref g4)] := hl
  refine kw_load l D cI cZ (pc := 0) (.aload_n 0) 1 0 (by decide +kernel) rfl (lv_at hl 0 rfl) hc ?_
  refine kw_obj l D cI cZ (pc := 1) (idx := 3) (by decide +kernel) (gw_at (i := 1168) (by decide +kernel)) (gw_at (i := 1020) (by decide +kernel)) ho3 hl.1 ⟨Nat.le_of_ble_eq_true rfl, Nat.le_of_ble_eq_true rfl⟩ hc ?_
  refine kw_load l D cI cZ (pc := 4) (.aload_n 0) 1 0 (by decide +kernel) rfl (lv_at hl 0 rfl) hc ?_
  refine kw_new l D cI cZ (pc := 5) (idx := 9) 3 ("PlacingDesk$Head", FT3, 4) [.int 0, .int 0, .int 0, .int 0] rfl (gw_at (i := 1169) (by decide +kernel)) (gw_at (i := 1170) (by decide +kernel)) (gw_at (i := 1008) (by decide +kernel)) (by decide +kernel) ⟨Nat.le_of_ble_eq_true rfl, Nat.le_of_ble_eq_true rfl⟩ (by decide +kernel) hc (fun q1 => ?_)
  refine kw_as [(h, .inr (4, [.null, .null, .null, .null, .null, .null])), (q1, .inr (3, [.int 0, .int 0, .int 0, .int 0]))] rfl ?_
  refine kw_dup l D cI cZ (pc := 8) (by decide +kernel) hc ?_
  refine kw_sa [(h, .inr (4, [.null, .null, .null, .null, .null, .null]))] [(q1, .inr (3, [.int 0, .int 0, .int 0, .int 0]))] rfl ?_
  refine kw_init l D cI cZ (pc := 9) (idx := 11) (b := q1) (As := []) (rest := [.ref q1, .ref h]) (c_I_Head l D cI cZ (ws0 ++ [(h, .inr (4, [.null, .null, .null, .null, .null, .null]))]) q1) cw_I_Head (Or.inr (by decide)) (gw_at (i := 1172) (by decide +kernel)) (gw_at (i := 1008) (by decide +kernel)) rfl (show nameOK ⟨"PlacingDesk$Head", "<init>", "()V"⟩ 0 = true by decide +kernel) (by decide) ⟨Nat.le_of_ble_eq_true rfl, Nat.le_of_ble_eq_true rfl⟩ ⟨Nat.le_of_ble_eq_true rfl, Nat.le_of_ble_eq_true rfl⟩ hl.1 (Nat.le_of_ble_eq_true rfl) (by decide +kernel) hc (fun ws' hws => ?_)
  subst hws
  refine kw_as [(h, .inr (4, [.null, .null, .null, .null, .null, .null])), (q1, .inr (3, [.int 0, .int 0, .int 0, .int 0]))] rfl ?_
  refine kw_putR l D cI cZ (pc := 12) (idx := 12) (ci := 4) (k := 4) (fs' := [.null, .null, .null, .null, .ref q1, .null]) (by decide +kernel) (Nat.le_of_ble_eq_true rfl) rfl (by decide +kernel) hn hc ?_
  refine kw_load l D cI cZ (pc := 15) (.aload_n 0) 1 0 (by decide +kernel) rfl (lv_at hl 0 rfl) hc ?_
  refine kw_push l D cI cZ (pc := 16) (.bipush 8) 2 (8) (by decide +kernel) (by decide) hc ?_
  refine kw_newI l D cI cZ (pc := 18) 8 rfl (by decide) hI ⟨Nat.le_of_ble_eq_true rfl, Nat.le_of_ble_eq_true rfl⟩ (by decide +kernel) hc (fun q2 => ?_)
  refine kw_as [(h, .inr (4, [.null, .null, .null, .null, .ref q1, .null])), (q1, .inr (3, [.int 0, .int 0, .int 0, .int 0])), (q2, .inl (cI, 8, .inl (fun _ => 0)))] rfl ?_
  refine kw_putR l D cI cZ (pc := 20) (idx := 18) (ci := 4) (k := 5) (fs' := [.null, .null, .null, .null, .ref q1, .ref q2]) (by decide +kernel) (Nat.le_of_ble_eq_true rfl) rfl (by decide +kernel) hn hc ?_
  refine kw_load l D cI cZ (pc := 23) (.aload_n 0) 1 0 (by decide +kernel) rfl (lv_at hl 0 rfl) hc ?_
  refine kw_load l D cI cZ (pc := 24) (.aload_n 1) 1 1 (by decide +kernel) rfl (lv_at hl 1 rfl) hc ?_
  refine kw_putR l D cI cZ (pc := 25) (idx := 22) (ci := 4) (k := 0) (fs' := [.ref g1, .null, .null, .null, .ref q1, .ref q2]) (by decide +kernel) (Nat.le_of_ble_eq_true rfl) rfl (by decide +kernel) hn hc ?_
  refine kw_load l D cI cZ (pc := 28) (.aload_n 0) 1 0 (by decide +kernel) rfl (lv_at hl 0 rfl) hc ?_
  refine kw_load l D cI cZ (pc := 29) (.aload_n 2) 1 2 (by decide +kernel) rfl (lv_at hl 2 rfl) hc ?_
  refine kw_putR l D cI cZ (pc := 30) (idx := 26) (ci := 4) (k := 1) (fs' := [.ref g1, .ref g2, .null, .null, .ref q1, .ref q2]) (by decide +kernel) (Nat.le_of_ble_eq_true rfl) rfl (by decide +kernel) hn hc ?_
  refine kw_load l D cI cZ (pc := 33) (.aload_n 0) 1 0 (by decide +kernel) rfl (lv_at hl 0 rfl) hc ?_
  refine kw_load l D cI cZ (pc := 34) (.aload_n 3) 1 3 (by decide +kernel) rfl (lv_at hl 3 rfl) hc ?_
  refine kw_putR l D cI cZ (pc := 35) (idx := 30) (ci := 4) (k := 2) (fs' := [.ref g1, .ref g2, .ref g3, .null, .ref q1, .ref q2]) (by decide +kernel) (Nat.le_of_ble_eq_true rfl) rfl (by decide +kernel) hn hc ?_
  refine kw_load l D cI cZ (pc := 38) (.aload_n 0) 1 0 (by decide +kernel) rfl (lv_at hl 0 rfl) hc ?_
  refine kw_load l D cI cZ (pc := 39) (.aload 4) 2 4 (by decide +kernel) rfl (lv_at hl 4 rfl) hc ?_
  refine kw_putR l D cI cZ (pc := 41) (idx := 34) (ci := 4) (k := 3) (fs' := [.ref g1, .ref g2, .ref g3, .ref g4, .ref q1, .ref q2]) (by decide +kernel) (Nat.le_of_ble_eq_true rfl) rfl (by decide +kernel) hn hc ?_
  exact kw_ret l D cI cZ (pc := 44) hr hlk (by decide +kernel) hc ⟨q1, q2, rfl⟩
def Rs_Finder (cI cZ : ClassId) (ws0 : va_W) (h g1 g2 g3 : Nat) (ws : va_W) : Prop := ∃ (q1 : Nat) (q2 : Nat) (q3 : Nat) (q4 : Nat) (q5 : Nat), ws = ws0 ++ [(h, .inr (1, [.ref g1, .ref g2, .ref g3, .int 0, .ref q1, .ref q2, .ref q3, .ref q4, .ref q5])), (q1, .inl (cI, 7, .inl (fun _ => 0))), (q2, .inl (cI, 128, .inl (fun _ => 0))), (q3, .inl (cI, 128, .inl (fun _ => 0))), (q4, .inl (cI, 128, .inl (fun _ => 0))), (q5, .inl (cI, 1024, .inl (fun _ => 0)))]
theorem cw_I_Finder : Cond.code ⟨"PlacingDesk$Finder", "<init>", "(LPlacingDesk$Board;LPlacingDesk$Slots;LPlacingDesk$Gear;)V"⟩ prog_3_method_1_code 4 none ∈ gw := gw_nth (k := 1) (i := 214) rfl rfl
set_option maxHeartbeats 4000000 in
set_option maxRecDepth 100000 in
theorem c_I_Finder (ws0 : va_W) (h g1 g2 g3 : Nat) : IC l D cI cZ 0 5 1415 ⟨"PlacingDesk$Finder", "<init>", "(LPlacingDesk$Board;LPlacingDesk$Slots;LPlacingDesk$Gear;)V"⟩ prog_3_method_1_code 4 [.ref h, .ref g1, .ref g2, .ref g3] (ws0 ++ [(h, .inr (1, [.null, .null, .null, .int 0, .null, .null, .null, .null, .null]))]) (Rs_Finder cI cZ ws0 h g1 g2 g3) := by
  refine IC_of l D cI cZ (o := 1) (by decide) (by decide) (Nat.le_of_ble_eq_true rfl) ?_
  intro p e s m args below meth c A ls hc hn hr hlk hl
  have hI := w_arrI
  have hZ := w_arrZ
  have ho3 := cw_I_obj
  have hl : lv_has ls 4 [(0, .ref h), (1, .ref g1), (2, .ref g2), (3, .ref g3)] := hl
  refine kw_load l D cI cZ (pc := 0) (.aload_n 0) 1 0 (by decide +kernel) rfl (lv_at hl 0 rfl) hc ?_
  refine kw_obj l D cI cZ (pc := 1) (idx := 5) (by decide +kernel) (gw_at (i := 1215) (by decide +kernel)) (gw_at (i := 1020) (by decide +kernel)) ho3 hl.1 ⟨Nat.le_of_ble_eq_true rfl, Nat.le_of_ble_eq_true rfl⟩ hc ?_
  refine kw_load l D cI cZ (pc := 4) (.aload_n 0) 1 0 (by decide +kernel) rfl (lv_at hl 0 rfl) hc ?_
  refine kw_push l D cI cZ (pc := 5) (.iconst 0) 1 (0) (by decide +kernel) (by decide) hc ?_
  refine kw_putV l D cI cZ (pc := 6) (idx := 11) (ci := 1) (k := 3) (fs' := [.null, .null, .null, .int 0, .null, .null, .null, .null, .null]) (by decide +kernel) (Nat.le_of_ble_eq_true rfl) rfl (by decide +kernel) hn hc ?_
  refine kw_load l D cI cZ (pc := 9) (.aload_n 0) 1 0 (by decide +kernel) rfl (lv_at hl 0 rfl) hc ?_
  refine kw_push l D cI cZ (pc := 10) (.bipush 7) 2 (7) (by decide +kernel) (by decide) hc ?_
  refine kw_newI l D cI cZ (pc := 12) 7 rfl (by decide) hI ⟨Nat.le_of_ble_eq_true rfl, Nat.le_of_ble_eq_true rfl⟩ (by decide +kernel) hc (fun q1 => ?_)
  refine kw_as [(h, .inr (1, [.null, .null, .null, .int 0, .null, .null, .null, .null, .null])), (q1, .inl (cI, 7, .inl (fun _ => 0)))] rfl ?_
  refine kw_putR l D cI cZ (pc := 14) (idx := 15) (ci := 1) (k := 4) (fs' := [.null, .null, .null, .int 0, .ref q1, .null, .null, .null, .null]) (by decide +kernel) (Nat.le_of_ble_eq_true rfl) rfl (by decide +kernel) hn hc ?_
  refine kw_load l D cI cZ (pc := 17) (.aload_n 0) 1 0 (by decide +kernel) rfl (lv_at hl 0 rfl) hc ?_
  refine kw_push l D cI cZ (pc := 18) (.sipush 128) 3 (128) (by decide +kernel) (by decide) hc ?_
  refine kw_newI l D cI cZ (pc := 21) 128 rfl (by decide) hI ⟨Nat.le_of_ble_eq_true rfl, Nat.le_of_ble_eq_true rfl⟩ (by decide +kernel) hc (fun q2 => ?_)
  refine kw_as [(h, .inr (1, [.null, .null, .null, .int 0, .ref q1, .null, .null, .null, .null])), (q1, .inl (cI, 7, .inl (fun _ => 0))), (q2, .inl (cI, 128, .inl (fun _ => 0)))] rfl ?_
  refine kw_putR l D cI cZ (pc := 23) (idx := 19) (ci := 1) (k := 5) (fs' := [.null, .null, .null, .int 0, .ref q1, .ref q2, .null, .null, .null]) (by decide +kernel) (Nat.le_of_ble_eq_true rfl) rfl (by decide +kernel) hn hc ?_
  refine kw_load l D cI cZ (pc := 26) (.aload_n 0) 1 0 (by decide +kernel) rfl (lv_at hl 0 rfl) hc ?_
  refine kw_push l D cI cZ (pc := 27) (.sipush 128) 3 (128) (by decide +kernel) (by decide) hc ?_
  refine kw_newI l D cI cZ (pc := 30) 128 rfl (by decide) hI ⟨Nat.le_of_ble_eq_true rfl, Nat.le_of_ble_eq_true rfl⟩ (by decide +kernel) hc (fun q3 => ?_)
  refine kw_as [(h, .inr (1, [.null, .null, .null, .int 0, .ref q1, .ref q2, .null, .null, .null])), (q1, .inl (cI, 7, .inl (fun _ => 0))), (q2, .inl (cI, 128, .inl (fun _ => 0))), (q3, .inl (cI, 128, .inl (fun _ => 0)))] rfl ?_
  refine kw_putR l D cI cZ (pc := 32) (idx := 22) (ci := 1) (k := 6) (fs' := [.null, .null, .null, .int 0, .ref q1, .ref q2, .ref q3, .null, .null]) (by decide +kernel) (Nat.le_of_ble_eq_true rfl) rfl (by decide +kernel) hn hc ?_
  refine kw_load l D cI cZ (pc := 35) (.aload_n 0) 1 0 (by decide +kernel) rfl (lv_at hl 0 rfl) hc ?_
  refine kw_push l D cI cZ (pc := 36) (.sipush 128) 3 (128) (by decide +kernel) (by decide) hc ?_
  refine kw_newI l D cI cZ (pc := 39) 128 rfl (by decide) hI ⟨Nat.le_of_ble_eq_true rfl, Nat.le_of_ble_eq_true rfl⟩ (by decide +kernel) hc (fun q4 => ?_)
  refine kw_as [(h, .inr (1, [.null, .null, .null, .int 0, .ref q1, .ref q2, .ref q3, .null, .null])), (q1, .inl (cI, 7, .inl (fun _ => 0))), (q2, .inl (cI, 128, .inl (fun _ => 0))), (q3, .inl (cI, 128, .inl (fun _ => 0))), (q4, .inl (cI, 128, .inl (fun _ => 0)))] rfl ?_
  refine kw_putR l D cI cZ (pc := 41) (idx := 25) (ci := 1) (k := 7) (fs' := [.null, .null, .null, .int 0, .ref q1, .ref q2, .ref q3, .ref q4, .null]) (by decide +kernel) (Nat.le_of_ble_eq_true rfl) rfl (by decide +kernel) hn hc ?_
  refine kw_load l D cI cZ (pc := 44) (.aload_n 0) 1 0 (by decide +kernel) rfl (lv_at hl 0 rfl) hc ?_
  refine kw_push l D cI cZ (pc := 45) (.sipush 1024) 3 (1024) (by decide +kernel) (by decide) hc ?_
  refine kw_newI l D cI cZ (pc := 48) 1024 rfl (by decide) hI ⟨Nat.le_of_ble_eq_true rfl, Nat.le_of_ble_eq_true rfl⟩ (by decide +kernel) hc (fun q5 => ?_)
  refine kw_as [(h, .inr (1, [.null, .null, .null, .int 0, .ref q1, .ref q2, .ref q3, .ref q4, .null])), (q1, .inl (cI, 7, .inl (fun _ => 0))), (q2, .inl (cI, 128, .inl (fun _ => 0))), (q3, .inl (cI, 128, .inl (fun _ => 0))), (q4, .inl (cI, 128, .inl (fun _ => 0))), (q5, .inl (cI, 1024, .inl (fun _ => 0)))] rfl ?_
  refine kw_putR l D cI cZ (pc := 50) (idx := 28) (ci := 1) (k := 8) (fs' := [.null, .null, .null, .int 0, .ref q1, .ref q2, .ref q3, .ref q4, .ref q5]) (by decide +kernel) (Nat.le_of_ble_eq_true rfl) rfl (by decide +kernel) hn hc ?_
  refine kw_load l D cI cZ (pc := 53) (.aload_n 0) 1 0 (by decide +kernel) rfl (lv_at hl 0 rfl) hc ?_
  refine kw_load l D cI cZ (pc := 54) (.aload_n 1) 1 1 (by decide +kernel) rfl (lv_at hl 1 rfl) hc ?_
  refine kw_putR l D cI cZ (pc := 55) (idx := 31) (ci := 1) (k := 0) (fs' := [.ref g1, .null, .null, .int 0, .ref q1, .ref q2, .ref q3, .ref q4, .ref q5]) (by decide +kernel) (Nat.le_of_ble_eq_true rfl) rfl (by decide +kernel) hn hc ?_
  refine kw_load l D cI cZ (pc := 58) (.aload_n 0) 1 0 (by decide +kernel) rfl (lv_at hl 0 rfl) hc ?_
  refine kw_load l D cI cZ (pc := 59) (.aload_n 2) 1 2 (by decide +kernel) rfl (lv_at hl 2 rfl) hc ?_
  refine kw_putR l D cI cZ (pc := 60) (idx := 35) (ci := 1) (k := 1) (fs' := [.ref g1, .ref g2, .null, .int 0, .ref q1, .ref q2, .ref q3, .ref q4, .ref q5]) (by decide +kernel) (Nat.le_of_ble_eq_true rfl) rfl (by decide +kernel) hn hc ?_
  refine kw_load l D cI cZ (pc := 63) (.aload_n 0) 1 0 (by decide +kernel) rfl (lv_at hl 0 rfl) hc ?_
  refine kw_load l D cI cZ (pc := 64) (.aload_n 3) 1 3 (by decide +kernel) rfl (lv_at hl 3 rfl) hc ?_
  refine kw_putR l D cI cZ (pc := 65) (idx := 39) (ci := 1) (k := 2) (fs' := [.ref g1, .ref g2, .ref g3, .int 0, .ref q1, .ref q2, .ref q3, .ref q4, .ref q5]) (by decide +kernel) (Nat.le_of_ble_eq_true rfl) rfl (by decide +kernel) hn hc ?_
  exact kw_ret l D cI cZ (pc := 68) hr hlk (by decide +kernel) hc ⟨q1, q2, q3, q4, q5, rfl⟩
def Rs_Trip (cI cZ : ClassId) (ws0 : va_W) (h g1 g2 g3 g4 : Nat) (ws : va_W) : Prop := ∃ (q1 : Nat) (q2 : Nat) (q3 : Nat) (q4 : Nat), ws = ws0 ++ [(h, .inr (7, [.ref g1, .ref g2, .ref g3, .ref g4, .ref q1, .ref q2, .int 1, .int 0, .int 0, .int 0, .int 0, .int 0, .int 0, .int (-1), .int 0, .int 0, .ref q3, .ref q4])), (q1, .inr (3, [.int 0, .int 0, .int 0, .int 0])), (q2, .inl (cZ, 201, .inl (fun _ => 0))), (q3, .inl (cI, 10, .inl (fun _ => 0))), (q4, .inl (cI, 8, .inl (fun _ => 0)))]
theorem cw_I_Trip : Cond.code ⟨"PlacingDesk$Trip", "<init>", "(LPlacingDesk$Board;LPlacingDesk$Slots;LPlacingDesk$Gear;LPlacingDesk$Row;)V"⟩ prog_9_method_1_code 5 none ∈ gw := gw_nth (k := 2) (i := 8) rfl rfl
set_option maxHeartbeats 4000000 in
set_option maxRecDepth 100000 in
theorem c_I_Trip (ws0 : va_W) (h g1 g2 g3 g4 : Nat) : IC l D cI cZ 1 4 223 ⟨"PlacingDesk$Trip", "<init>", "(LPlacingDesk$Board;LPlacingDesk$Slots;LPlacingDesk$Gear;LPlacingDesk$Row;)V"⟩ prog_9_method_1_code 5 [.ref h, .ref g1, .ref g2, .ref g3, .ref g4] (ws0 ++ [(h, .inr (7, [.null, .null, .null, .null, .null, .null, .int 0, .int 0, .int 0, .int 0, .int 0, .int 0, .int 0, .int 0, .int 0, .int 0, .null, .null]))]) (Rs_Trip cI cZ ws0 h g1 g2 g3 g4) := by
  refine IC_of l D cI cZ (o := 7) (by decide) (by decide) (Nat.le_of_ble_eq_true rfl) ?_
  intro p e s m args below meth c A ls hc hn hr hlk hl
  have hI := w_arrI
  have hZ := w_arrZ
  have ho3 := cw_I_obj
  have hl : lv_has ls 5 [(0, .ref h), (1, .ref g1), (2, .ref g2), (3, .ref g3), (4, .ref g4)] := hl
  refine kw_load l D cI cZ (pc := 0) (.aload_n 0) 1 0 (by decide +kernel) rfl (lv_at hl 0 rfl) hc ?_
  refine kw_obj l D cI cZ (pc := 1) (idx := 3) (by decide +kernel) (gw_at (i := 2009) (by decide +kernel)) (gw_at (i := 1020) (by decide +kernel)) ho3 hl.1 ⟨Nat.le_of_ble_eq_true rfl, Nat.le_of_ble_eq_true rfl⟩ hc ?_
  refine kw_load l D cI cZ (pc := 4) (.aload_n 0) 1 0 (by decide +kernel) rfl (lv_at hl 0 rfl) hc ?_
  refine kw_new l D cI cZ (pc := 5) (idx := 9) 3 ("PlacingDesk$Head", FT3, 4) [.int 0, .int 0, .int 0, .int 0] rfl (gw_at (i := 2010) (by decide +kernel)) (gw_at (i := 1170) (by decide +kernel)) (gw_at (i := 1008) (by decide +kernel)) (by decide +kernel) ⟨Nat.le_of_ble_eq_true rfl, Nat.le_of_ble_eq_true rfl⟩ (by decide +kernel) hc (fun q1 => ?_)
  refine kw_as [(h, .inr (7, [.null, .null, .null, .null, .null, .null, .int 0, .int 0, .int 0, .int 0, .int 0, .int 0, .int 0, .int 0, .int 0, .int 0, .null, .null])), (q1, .inr (3, [.int 0, .int 0, .int 0, .int 0]))] rfl ?_
  refine kw_dup l D cI cZ (pc := 8) (by decide +kernel) hc ?_
  refine kw_sa [(h, .inr (7, [.null, .null, .null, .null, .null, .null, .int 0, .int 0, .int 0, .int 0, .int 0, .int 0, .int 0, .int 0, .int 0, .int 0, .null, .null]))] [(q1, .inr (3, [.int 0, .int 0, .int 0, .int 0]))] rfl ?_
  refine kw_init l D cI cZ (pc := 9) (idx := 11) (b := q1) (As := []) (rest := [.ref q1, .ref h]) (c_I_Head l D cI cZ (ws0 ++ [(h, .inr (7, [.null, .null, .null, .null, .null, .null, .int 0, .int 0, .int 0, .int 0, .int 0, .int 0, .int 0, .int 0, .int 0, .int 0, .null, .null]))]) q1) cw_I_Head (Or.inr (by decide)) (gw_at (i := 1172) (by decide +kernel)) (gw_at (i := 1008) (by decide +kernel)) rfl (show nameOK ⟨"PlacingDesk$Head", "<init>", "()V"⟩ 0 = true by decide +kernel) (by decide) ⟨Nat.le_of_ble_eq_true rfl, Nat.le_of_ble_eq_true rfl⟩ ⟨Nat.le_of_ble_eq_true rfl, Nat.le_of_ble_eq_true rfl⟩ hl.1 (Nat.le_of_ble_eq_true rfl) (by decide +kernel) hc (fun ws' hws => ?_)
  subst hws
  refine kw_as [(h, .inr (7, [.null, .null, .null, .null, .null, .null, .int 0, .int 0, .int 0, .int 0, .int 0, .int 0, .int 0, .int 0, .int 0, .int 0, .null, .null])), (q1, .inr (3, [.int 0, .int 0, .int 0, .int 0]))] rfl ?_
  refine kw_putR l D cI cZ (pc := 12) (idx := 12) (ci := 7) (k := 4) (fs' := [.null, .null, .null, .null, .ref q1, .null, .int 0, .int 0, .int 0, .int 0, .int 0, .int 0, .int 0, .int 0, .int 0, .int 0, .null, .null]) (by decide +kernel) (Nat.le_of_ble_eq_true rfl) rfl (by decide +kernel) hn hc ?_
  refine kw_load l D cI cZ (pc := 15) (.aload_n 0) 1 0 (by decide +kernel) rfl (lv_at hl 0 rfl) hc ?_
  refine kw_push l D cI cZ (pc := 16) (.sipush 201) 3 (201) (by decide +kernel) (by decide) hc ?_
  refine kw_newZ l D cI cZ (pc := 19) 201 rfl (by decide) hZ ⟨Nat.le_of_ble_eq_true rfl, Nat.le_of_ble_eq_true rfl⟩ (by decide +kernel) hc (fun q2 => ?_)
  refine kw_as [(h, .inr (7, [.null, .null, .null, .null, .ref q1, .null, .int 0, .int 0, .int 0, .int 0, .int 0, .int 0, .int 0, .int 0, .int 0, .int 0, .null, .null])), (q1, .inr (3, [.int 0, .int 0, .int 0, .int 0])), (q2, .inl (cZ, 201, .inl (fun _ => 0)))] rfl ?_
  refine kw_putR l D cI cZ (pc := 21) (idx := 18) (ci := 7) (k := 5) (fs' := [.null, .null, .null, .null, .ref q1, .ref q2, .int 0, .int 0, .int 0, .int 0, .int 0, .int 0, .int 0, .int 0, .int 0, .int 0, .null, .null]) (by decide +kernel) (Nat.le_of_ble_eq_true rfl) rfl (by decide +kernel) hn hc ?_
  refine kw_load l D cI cZ (pc := 24) (.aload_n 0) 1 0 (by decide +kernel) rfl (lv_at hl 0 rfl) hc ?_
  refine kw_push l D cI cZ (pc := 25) (.iconst 1) 1 (1) (by decide +kernel) (by decide) hc ?_
  refine kw_putV l D cI cZ (pc := 26) (idx := 22) (ci := 7) (k := 6) (fs' := [.null, .null, .null, .null, .ref q1, .ref q2, .int 1, .int 0, .int 0, .int 0, .int 0, .int 0, .int 0, .int 0, .int 0, .int 0, .null, .null]) (by decide +kernel) (Nat.le_of_ble_eq_true rfl) rfl (by decide +kernel) hn hc ?_
  refine kw_load l D cI cZ (pc := 29) (.aload_n 0) 1 0 (by decide +kernel) rfl (lv_at hl 0 rfl) hc ?_
  refine kw_push l D cI cZ (pc := 30) (.iconst 0) 1 (0) (by decide +kernel) (by decide) hc ?_
  refine kw_putV l D cI cZ (pc := 31) (idx := 26) (ci := 7) (k := 7) (fs' := [.null, .null, .null, .null, .ref q1, .ref q2, .int 1, .int 0, .int 0, .int 0, .int 0, .int 0, .int 0, .int 0, .int 0, .int 0, .null, .null]) (by decide +kernel) (Nat.le_of_ble_eq_true rfl) rfl (by decide +kernel) hn hc ?_
  refine kw_load l D cI cZ (pc := 34) (.aload_n 0) 1 0 (by decide +kernel) rfl (lv_at hl 0 rfl) hc ?_
  refine kw_push l D cI cZ (pc := 35) (.iconst 0) 1 (0) (by decide +kernel) (by decide) hc ?_
  refine kw_putV l D cI cZ (pc := 36) (idx := 30) (ci := 7) (k := 8) (fs' := [.null, .null, .null, .null, .ref q1, .ref q2, .int 1, .int 0, .int 0, .int 0, .int 0, .int 0, .int 0, .int 0, .int 0, .int 0, .null, .null]) (by decide +kernel) (Nat.le_of_ble_eq_true rfl) rfl (by decide +kernel) hn hc ?_
  refine kw_load l D cI cZ (pc := 39) (.aload_n 0) 1 0 (by decide +kernel) rfl (lv_at hl 0 rfl) hc ?_
  refine kw_push l D cI cZ (pc := 40) (.iconst 0) 1 (0) (by decide +kernel) (by decide) hc ?_
  refine kw_putV l D cI cZ (pc := 41) (idx := 33) (ci := 7) (k := 9) (fs' := [.null, .null, .null, .null, .ref q1, .ref q2, .int 1, .int 0, .int 0, .int 0, .int 0, .int 0, .int 0, .int 0, .int 0, .int 0, .null, .null]) (by decide +kernel) (Nat.le_of_ble_eq_true rfl) rfl (by decide +kernel) hn hc ?_
  refine kw_load l D cI cZ (pc := 44) (.aload_n 0) 1 0 (by decide +kernel) rfl (lv_at hl 0 rfl) hc ?_
  refine kw_push l D cI cZ (pc := 45) (.iconst 0) 1 (0) (by decide +kernel) (by decide) hc ?_
  refine kw_putV l D cI cZ (pc := 46) (idx := 36) (ci := 7) (k := 10) (fs' := [.null, .null, .null, .null, .ref q1, .ref q2, .int 1, .int 0, .int 0, .int 0, .int 0, .int 0, .int 0, .int 0, .int 0, .int 0, .null, .null]) (by decide +kernel) (Nat.le_of_ble_eq_true rfl) rfl (by decide +kernel) hn hc ?_
  refine kw_load l D cI cZ (pc := 49) (.aload_n 0) 1 0 (by decide +kernel) rfl (lv_at hl 0 rfl) hc ?_
  refine kw_push l D cI cZ (pc := 50) (.iconst 0) 1 (0) (by decide +kernel) (by decide) hc ?_
  refine kw_putV l D cI cZ (pc := 51) (idx := 39) (ci := 7) (k := 11) (fs' := [.null, .null, .null, .null, .ref q1, .ref q2, .int 1, .int 0, .int 0, .int 0, .int 0, .int 0, .int 0, .int 0, .int 0, .int 0, .null, .null]) (by decide +kernel) (Nat.le_of_ble_eq_true rfl) rfl (by decide +kernel) hn hc ?_
  refine kw_load l D cI cZ (pc := 54) (.aload_n 0) 1 0 (by decide +kernel) rfl (lv_at hl 0 rfl) hc ?_
  refine kw_push l D cI cZ (pc := 55) (.iconst 0) 1 (0) (by decide +kernel) (by decide) hc ?_
  refine kw_putV l D cI cZ (pc := 56) (idx := 42) (ci := 7) (k := 12) (fs' := [.null, .null, .null, .null, .ref q1, .ref q2, .int 1, .int 0, .int 0, .int 0, .int 0, .int 0, .int 0, .int 0, .int 0, .int 0, .null, .null]) (by decide +kernel) (Nat.le_of_ble_eq_true rfl) rfl (by decide +kernel) hn hc ?_
  refine kw_load l D cI cZ (pc := 59) (.aload_n 0) 1 0 (by decide +kernel) rfl (lv_at hl 0 rfl) hc ?_
  refine kw_push l D cI cZ (pc := 60) (.iconst (-1)) 1 (-1) (by decide +kernel) (by decide) hc ?_
  refine kw_putV l D cI cZ (pc := 61) (idx := 45) (ci := 7) (k := 13) (fs' := [.null, .null, .null, .null, .ref q1, .ref q2, .int 1, .int 0, .int 0, .int 0, .int 0, .int 0, .int 0, .int (-1), .int 0, .int 0, .null, .null]) (by decide +kernel) (Nat.le_of_ble_eq_true rfl) rfl (by decide +kernel) hn hc ?_
  refine kw_load l D cI cZ (pc := 64) (.aload_n 0) 1 0 (by decide +kernel) rfl (lv_at hl 0 rfl) hc ?_
  refine kw_push l D cI cZ (pc := 65) (.iconst 0) 1 (0) (by decide +kernel) (by decide) hc ?_
  refine kw_putV l D cI cZ (pc := 66) (idx := 48) (ci := 7) (k := 14) (fs' := [.null, .null, .null, .null, .ref q1, .ref q2, .int 1, .int 0, .int 0, .int 0, .int 0, .int 0, .int 0, .int (-1), .int 0, .int 0, .null, .null]) (by decide +kernel) (Nat.le_of_ble_eq_true rfl) rfl (by decide +kernel) hn hc ?_
  refine kw_load l D cI cZ (pc := 69) (.aload_n 0) 1 0 (by decide +kernel) rfl (lv_at hl 0 rfl) hc ?_
  refine kw_push l D cI cZ (pc := 70) (.iconst 0) 1 (0) (by decide +kernel) (by decide) hc ?_
  refine kw_putV l D cI cZ (pc := 71) (idx := 51) (ci := 7) (k := 15) (fs' := [.null, .null, .null, .null, .ref q1, .ref q2, .int 1, .int 0, .int 0, .int 0, .int 0, .int 0, .int 0, .int (-1), .int 0, .int 0, .null, .null]) (by decide +kernel) (Nat.le_of_ble_eq_true rfl) rfl (by decide +kernel) hn hc ?_
  refine kw_load l D cI cZ (pc := 74) (.aload_n 0) 1 0 (by decide +kernel) rfl (lv_at hl 0 rfl) hc ?_
  refine kw_push l D cI cZ (pc := 75) (.bipush 10) 2 (10) (by decide +kernel) (by decide) hc ?_
  refine kw_newI l D cI cZ (pc := 77) 10 rfl (by decide) hI ⟨Nat.le_of_ble_eq_true rfl, Nat.le_of_ble_eq_true rfl⟩ (by decide +kernel) hc (fun q3 => ?_)
  refine kw_as [(h, .inr (7, [.null, .null, .null, .null, .ref q1, .ref q2, .int 1, .int 0, .int 0, .int 0, .int 0, .int 0, .int 0, .int (-1), .int 0, .int 0, .null, .null])), (q1, .inr (3, [.int 0, .int 0, .int 0, .int 0])), (q2, .inl (cZ, 201, .inl (fun _ => 0))), (q3, .inl (cI, 10, .inl (fun _ => 0)))] rfl ?_
  refine kw_putR l D cI cZ (pc := 79) (idx := 54) (ci := 7) (k := 16) (fs' := [.null, .null, .null, .null, .ref q1, .ref q2, .int 1, .int 0, .int 0, .int 0, .int 0, .int 0, .int 0, .int (-1), .int 0, .int 0, .ref q3, .null]) (by decide +kernel) (Nat.le_of_ble_eq_true rfl) rfl (by decide +kernel) hn hc ?_
  refine kw_load l D cI cZ (pc := 82) (.aload_n 0) 1 0 (by decide +kernel) rfl (lv_at hl 0 rfl) hc ?_
  refine kw_push l D cI cZ (pc := 83) (.bipush 8) 2 (8) (by decide +kernel) (by decide) hc ?_
  refine kw_newI l D cI cZ (pc := 85) 8 rfl (by decide) hI ⟨Nat.le_of_ble_eq_true rfl, Nat.le_of_ble_eq_true rfl⟩ (by decide +kernel) hc (fun q4 => ?_)
  refine kw_as [(h, .inr (7, [.null, .null, .null, .null, .ref q1, .ref q2, .int 1, .int 0, .int 0, .int 0, .int 0, .int 0, .int 0, .int (-1), .int 0, .int 0, .ref q3, .null])), (q1, .inr (3, [.int 0, .int 0, .int 0, .int 0])), (q2, .inl (cZ, 201, .inl (fun _ => 0))), (q3, .inl (cI, 10, .inl (fun _ => 0))), (q4, .inl (cI, 8, .inl (fun _ => 0)))] rfl ?_
  refine kw_putR l D cI cZ (pc := 87) (idx := 58) (ci := 7) (k := 17) (fs' := [.null, .null, .null, .null, .ref q1, .ref q2, .int 1, .int 0, .int 0, .int 0, .int 0, .int 0, .int 0, .int (-1), .int 0, .int 0, .ref q3, .ref q4]) (by decide +kernel) (Nat.le_of_ble_eq_true rfl) rfl (by decide +kernel) hn hc ?_
  refine kw_load l D cI cZ (pc := 90) (.aload_n 0) 1 0 (by decide +kernel) rfl (lv_at hl 0 rfl) hc ?_
  refine kw_load l D cI cZ (pc := 91) (.aload_n 1) 1 1 (by decide +kernel) rfl (lv_at hl 1 rfl) hc ?_
  refine kw_putR l D cI cZ (pc := 92) (idx := 61) (ci := 7) (k := 0) (fs' := [.ref g1, .null, .null, .null, .ref q1, .ref q2, .int 1, .int 0, .int 0, .int 0, .int 0, .int 0, .int 0, .int (-1), .int 0, .int 0, .ref q3, .ref q4]) (by decide +kernel) (Nat.le_of_ble_eq_true rfl) rfl (by decide +kernel) hn hc ?_
  refine kw_load l D cI cZ (pc := 95) (.aload_n 0) 1 0 (by decide +kernel) rfl (lv_at hl 0 rfl) hc ?_
  refine kw_load l D cI cZ (pc := 96) (.aload_n 2) 1 2 (by decide +kernel) rfl (lv_at hl 2 rfl) hc ?_
  refine kw_putR l D cI cZ (pc := 97) (idx := 65) (ci := 7) (k := 1) (fs' := [.ref g1, .ref g2, .null, .null, .ref q1, .ref q2, .int 1, .int 0, .int 0, .int 0, .int 0, .int 0, .int 0, .int (-1), .int 0, .int 0, .ref q3, .ref q4]) (by decide +kernel) (Nat.le_of_ble_eq_true rfl) rfl (by decide +kernel) hn hc ?_
  refine kw_load l D cI cZ (pc := 100) (.aload_n 0) 1 0 (by decide +kernel) rfl (lv_at hl 0 rfl) hc ?_
  refine kw_load l D cI cZ (pc := 101) (.aload_n 3) 1 3 (by decide +kernel) rfl (lv_at hl 3 rfl) hc ?_
  refine kw_putR l D cI cZ (pc := 102) (idx := 69) (ci := 7) (k := 2) (fs' := [.ref g1, .ref g2, .ref g3, .null, .ref q1, .ref q2, .int 1, .int 0, .int 0, .int 0, .int 0, .int 0, .int 0, .int (-1), .int 0, .int 0, .ref q3, .ref q4]) (by decide +kernel) (Nat.le_of_ble_eq_true rfl) rfl (by decide +kernel) hn hc ?_
  refine kw_load l D cI cZ (pc := 105) (.aload_n 0) 1 0 (by decide +kernel) rfl (lv_at hl 0 rfl) hc ?_
  refine kw_load l D cI cZ (pc := 106) (.aload 4) 2 4 (by decide +kernel) rfl (lv_at hl 4 rfl) hc ?_
  refine kw_putR l D cI cZ (pc := 108) (idx := 73) (ci := 7) (k := 3) (fs' := [.ref g1, .ref g2, .ref g3, .ref g4, .ref q1, .ref q2, .int 1, .int 0, .int 0, .int 0, .int 0, .int 0, .int 0, .int (-1), .int 0, .int 0, .ref q3, .ref q4]) (by decide +kernel) (Nat.le_of_ble_eq_true rfl) rfl (by decide +kernel) hn hc ?_
  exact kw_ret l D cI cZ (pc := 111) hr hlk (by decide +kernel) hc ⟨q1, q2, q3, q4, rfl⟩
end CT1
