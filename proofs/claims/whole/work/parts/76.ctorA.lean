/-! printed by wip/gen/ctors.py: constructors -/
theorem w_arrI : Cond.arrayClass .int ∈ gw := gw_at (i := 1082) (by decide +kernel)
theorem w_arrZ : Cond.arrayClass .boolean ∈ gw := gw_at (i := 1083) (by decide +kernel)
theorem cw_I_obj : Cond.code Lib.objectInit ⟨#[0xb1]⟩ 1 none ∈ gw := gw_nth (k := 1) (i := 21) rfl rfl
theorem cw_I_fill : Cond.code y_fill prog_14_method_103_code 4 none ∈ gw := gw_nth (k := 1) (i := 30) rfl rfl
section CT0
variable (l : Launch) (D : va_G) (cI cZ : ClassId)
def Rs_Head (cI cZ : ClassId) (ws0 : va_W) (h : Nat) (ws : va_W) : Prop := ws = ws0 ++ [(h, .inr (3, [.int 0, .int 0, .int 0, .int 0]))]
theorem cw_I_Head : Cond.code ⟨"PlacingDesk$Head", "<init>", "()V"⟩ prog_5_method_1_code 1 none ∈ gw := gw_nth (k := 1) (i := 173) rfl rfl
set_option maxHeartbeats 4000000 in
set_option maxRecDepth 100000 in
theorem c_I_Head (ws0 : va_W) (h : Nat) : IC l D cI cZ 0 0 0 ⟨"PlacingDesk$Head", "<init>", "()V"⟩ prog_5_method_1_code 1 [.ref h] (ws0 ++ [(h, .inr (3, [.int 0, .int 0, .int 0, .int 0]))]) (Rs_Head cI cZ ws0 h) := by
  refine IC_of l D cI cZ (o := 3) (by decide) (by decide) (Nat.le_of_ble_eq_true rfl) ?_
  intro p e s m args below meth c A ls hc hn hr hlk hl
  have hI := w_arrI
  have hZ := w_arrZ
  have ho3 := cw_I_obj
  have hl : lv_has ls 1 [(0, .ref h)] := hl
  refine kw_load l D cI cZ (pc := 0) (.aload_n 0) 1 0 (by decide +kernel) rfl (lv_at hl 0 rfl) hc ?_
  refine kw_obj l D cI cZ (pc := 1) (idx := 1) (by decide +kernel) (gw_at (i := 1174) (by decide +kernel)) (gw_at (i := 1020) (by decide +kernel)) ho3 hl.1 ⟨Nat.le_of_ble_eq_true rfl, Nat.le_of_ble_eq_true rfl⟩ hc ?_
  refine kw_load l D cI cZ (pc := 4) (.aload_n 0) 1 0 (by decide +kernel) rfl (lv_at hl 0 rfl) hc ?_
  refine kw_push l D cI cZ (pc := 5) (.iconst 0) 1 (0) (by decide +kernel) (by decide) hc ?_
  refine kw_putV l D cI cZ (pc := 6) (idx := 7) (ci := 3) (k := 0) (fs' := [.int 0, .int 0, .int 0, .int 0]) (by decide +kernel) (Nat.le_of_ble_eq_true rfl) rfl (by decide +kernel) hn hc ?_
  refine kw_load l D cI cZ (pc := 9) (.aload_n 0) 1 0 (by decide +kernel) rfl (lv_at hl 0 rfl) hc ?_
  refine kw_push l D cI cZ (pc := 10) (.iconst 0) 1 (0) (by decide +kernel) (by decide) hc ?_
  refine kw_putV l D cI cZ (pc := 11) (idx := 13) (ci := 3) (k := 1) (fs' := [.int 0, .int 0, .int 0, .int 0]) (by decide +kernel) (Nat.le_of_ble_eq_true rfl) rfl (by decide +kernel) hn hc ?_
  refine kw_load l D cI cZ (pc := 14) (.aload_n 0) 1 0 (by decide +kernel) rfl (lv_at hl 0 rfl) hc ?_
  refine kw_push l D cI cZ (pc := 15) (.iconst 0) 1 (0) (by decide +kernel) (by decide) hc ?_
  refine kw_putV l D cI cZ (pc := 16) (idx := 16) (ci := 3) (k := 2) (fs' := [.int 0, .int 0, .int 0, .int 0]) (by decide +kernel) (Nat.le_of_ble_eq_true rfl) rfl (by decide +kernel) hn hc ?_
  refine kw_load l D cI cZ (pc := 19) (.aload_n 0) 1 0 (by decide +kernel) rfl (lv_at hl 0 rfl) hc ?_
  refine kw_push l D cI cZ (pc := 20) (.iconst 0) 1 (0) (by decide +kernel) (by decide) hc ?_
  refine kw_putV l D cI cZ (pc := 21) (idx := 19) (ci := 3) (k := 3) (fs' := [.int 0, .int 0, .int 0, .int 0]) (by decide +kernel) (Nat.le_of_ble_eq_true rfl) rfl (by decide +kernel) hn hc ?_
  exact kw_ret l D cI cZ (pc := 24) hr hlk (by decide +kernel) hc rfl
def Rs_Gear (cI cZ : ClassId) (ws0 : va_W) (h : Nat) (ws : va_W) : Prop := ws = ws0 ++ [(h, .inr (2, [.int 2, .int 2, .int 3, .int 4, .int 10]))]
theorem cw_I_Gear : Cond.code ⟨"PlacingDesk$Gear", "<init>", "()V"⟩ prog_4_method_1_code 1 none ∈ gw := gw_nth (k := 1) (i := 106) rfl rfl
set_option maxHeartbeats 4000000 in
set_option maxRecDepth 100000 in
theorem c_I_Gear (ws0 : va_W) (h : Nat) : IC l D cI cZ 0 0 0 ⟨"PlacingDesk$Gear", "<init>", "()V"⟩ prog_4_method_1_code 1 [.ref h] (ws0 ++ [(h, .inr (2, [.int 0, .int 0, .int 0, .int 0, .int 0]))]) (Rs_Gear cI cZ ws0 h) := by
  refine IC_of l D cI cZ (o := 2) (by decide) (by decide) (Nat.le_of_ble_eq_true rfl) ?_
  intro p e s m args below meth c A ls hc hn hr hlk hl
  have hI := w_arrI
  have hZ := w_arrZ
  have ho3 := cw_I_obj
  have hl : lv_has ls 1 [(0, .ref h)] := hl
  refine kw_load l D cI cZ (pc := 0) (.aload_n 0) 1 0 (by decide +kernel) rfl (lv_at hl 0 rfl) hc ?_
  refine kw_obj l D cI cZ (pc := 1) (idx := 1) (by decide +kernel) (gw_at (i := 1107) (by decide +kernel)) (gw_at (i := 1020) (by decide +kernel)) ho3 hl.1 ⟨Nat.le_of_ble_eq_true rfl, Nat.le_of_ble_eq_true rfl⟩ hc ?_
  refine kw_load l D cI cZ (pc := 4) (.aload_n 0) 1 0 (by decide +kernel) rfl (lv_at hl 0 rfl) hc ?_
  refine kw_push l D cI cZ (pc := 5) (.iconst 2) 1 (2) (by decide +kernel) (by decide) hc ?_
  refine kw_putV l D cI cZ (pc := 6) (idx := 7) (ci := 2) (k := 0) (fs' := [.int 2, .int 0, .int 0, .int 0, .int 0]) (by decide +kernel) (Nat.le_of_ble_eq_true rfl) rfl (by decide +kernel) hn hc ?_
  refine kw_load l D cI cZ (pc := 9) (.aload_n 0) 1 0 (by decide +kernel) rfl (lv_at hl 0 rfl) hc ?_
  refine kw_push l D cI cZ (pc := 10) (.iconst 2) 1 (2) (by decide +kernel) (by decide) hc ?_
  refine kw_putV l D cI cZ (pc := 11) (idx := 13) (ci := 2) (k := 1) (fs' := [.int 2, .int 2, .int 0, .int 0, .int 0]) (by decide +kernel) (Nat.le_of_ble_eq_true rfl) rfl (by decide +kernel) hn hc ?_
  refine kw_load l D cI cZ (pc := 14) (.aload_n 0) 1 0 (by decide +kernel) rfl (lv_at hl 0 rfl) hc ?_
  refine kw_push l D cI cZ (pc := 15) (.iconst 3) 1 (3) (by decide +kernel) (by decide) hc ?_
  refine kw_putV l D cI cZ (pc := 16) (idx := 16) (ci := 2) (k := 2) (fs' := [.int 2, .int 2, .int 3, .int 0, .int 0]) (by decide +kernel) (Nat.le_of_ble_eq_true rfl) rfl (by decide +kernel) hn hc ?_
  refine kw_load l D cI cZ (pc := 19) (.aload_n 0) 1 0 (by decide +kernel) rfl (lv_at hl 0 rfl) hc ?_
  refine kw_push l D cI cZ (pc := 20) (.iconst 4) 1 (4) (by decide +kernel) (by decide) hc ?_
  refine kw_putV l D cI cZ (pc := 21) (idx := 19) (ci := 2) (k := 3) (fs' := [.int 2, .int 2, .int 3, .int 4, .int 0]) (by decide +kernel) (Nat.le_of_ble_eq_true rfl) rfl (by decide +kernel) hn hc ?_
  refine kw_load l D cI cZ (pc := 24) (.aload_n 0) 1 0 (by decide +kernel) rfl (lv_at hl 0 rfl) hc ?_
  refine kw_push l D cI cZ (pc := 25) (.bipush 10) 2 (10) (by decide +kernel) (by decide) hc ?_
  refine kw_putV l D cI cZ (pc := 27) (idx := 22) (ci := 2) (k := 4) (fs' := [.int 2, .int 2, .int 3, .int 4, .int 10]) (by decide +kernel) (Nat.le_of_ble_eq_true rfl) rfl (by decide +kernel) hn hc ?_
  exact kw_ret l D cI cZ (pc := 30) hr hlk (by decide +kernel) hc rfl
def Rs_Row (cI cZ : ClassId) (ws0 : va_W) (h : Nat) (ws : va_W) : Prop := ∃ (q1 : Nat), ws = ws0 ++ [(h, .inr (5, [.ref q1, .int 0, .int 0])), (q1, .inl (cI, 10, .inl (fun _ => 0)))]
theorem cw_I_Row : Cond.code ⟨"PlacingDesk$Row", "<init>", "()V"⟩ prog_7_method_1_code 1 none ∈ gw := gw_nth (k := 1) (i := 147) rfl rfl
set_option maxHeartbeats 4000000 in
set_option maxRecDepth 100000 in
theorem c_I_Row (ws0 : va_W) (h : Nat) : IC l D cI cZ 0 1 10 ⟨"PlacingDesk$Row", "<init>", "()V"⟩ prog_7_method_1_code 1 [.ref h] (ws0 ++ [(h, .inr (5, [.null, .int 0, .int 0]))]) (Rs_Row cI cZ ws0 h) := by
  refine IC_of l D cI cZ (o := 5) (by decide) (by decide) (Nat.le_of_ble_eq_true rfl) ?_
  intro p e s m args below meth c A ls hc hn hr hlk hl
  have hI := w_arrI
  have hZ := w_arrZ
  have ho3 := cw_I_obj
  have hl : lv_has ls 1 [(0, .ref h)] := hl
  refine kw_load l D cI cZ (pc := 0) (.aload_n 0) 1 0 (by decide +kernel) rfl (lv_at hl 0 rfl) hc ?_
  refine kw_obj l D cI cZ (pc := 1) (idx := 3) (by decide +kernel) (gw_at (i := 1148) (by decide +kernel)) (gw_at (i := 1020) (by decide +kernel)) ho3 hl.1 ⟨Nat.le_of_ble_eq_true rfl, Nat.le_of_ble_eq_true rfl⟩ hc ?_
  refine kw_load l D cI cZ (pc := 4) (.aload_n 0) 1 0 (by decide +kernel) rfl (lv_at hl 0 rfl) hc ?_
  refine kw_push l D cI cZ (pc := 5) (.bipush 10) 2 (10) (by decide +kernel) (by decide) hc ?_
  refine kw_newI l D cI cZ (pc := 7) 10 rfl (by decide) hI ⟨Nat.le_of_ble_eq_true rfl, Nat.le_of_ble_eq_true rfl⟩ (by decide +kernel) hc (fun q1 => ?_)
  refine kw_as [(h, .inr (5, [.null, .int 0, .int 0])), (q1, .inl (cI, 10, .inl (fun _ => 0)))] rfl ?_
  refine kw_putR l D cI cZ (pc := 9) (idx := 9) (ci := 5) (k := 0) (fs' := [.ref q1, .int 0, .int 0]) (by decide +kernel) (Nat.le_of_ble_eq_true rfl) rfl (by decide +kernel) hn hc ?_
  refine kw_load l D cI cZ (pc := 12) (.aload_n 0) 1 0 (by decide +kernel) rfl (lv_at hl 0 rfl) hc ?_
  refine kw_push l D cI cZ (pc := 13) (.iconst 0) 1 (0) (by decide +kernel) (by decide) hc ?_
  refine kw_putV l D cI cZ (pc := 14) (idx := 15) (ci := 5) (k := 1) (fs' := [.ref q1, .int 0, .int 0]) (by decide +kernel) (Nat.le_of_ble_eq_true rfl) rfl (by decide +kernel) hn hc ?_
  refine kw_load l D cI cZ (pc := 17) (.aload_n 0) 1 0 (by decide +kernel) rfl (lv_at hl 0 rfl) hc ?_
  refine kw_push l D cI cZ (pc := 18) (.iconst 0) 1 (0) (by decide +kernel) (by decide) hc ?_
  refine kw_putV l D cI cZ (pc := 19) (idx := 19) (ci := 5) (k := 2) (fs' := [.ref q1, .int 0, .int 0]) (by decide +kernel) (Nat.le_of_ble_eq_true rfl) rfl (by decide +kernel) hn hc ?_
  exact kw_ret l D cI cZ (pc := 22) hr hlk (by decide +kernel) hc ⟨q1, rfl⟩
def Rs_Slots (cI cZ : ClassId) (ws0 : va_W) (h : Nat) (ws : va_W) : Prop := ∃ (q1 : Nat) (q2 : Nat) (f1 : Nat → Int32), (∀ j, j < 8 → f1 j = (-1)) ∧ ws = ws0 ++ [(h, .inr (6, [.ref q1, .ref q2])), (q1, .inl (cI, 8, .inl f1)), (q2, .inl (cI, 8, .inl (fun _ => 0)))]
theorem cw_I_Slots : Cond.code ⟨"PlacingDesk$Slots", "<init>", "()V"⟩ prog_8_method_1_code 1 none ∈ gw := gw_nth (k := 1) (i := 88) rfl rfl
set_option maxHeartbeats 4000000 in
set_option maxRecDepth 100000 in
theorem c_I_Slots (ws0 : va_W) (h : Nat) : IC l D cI cZ 1 2 16 ⟨"PlacingDesk$Slots", "<init>", "()V"⟩ prog_8_method_1_code 1 [.ref h] (ws0 ++ [(h, .inr (6, [.null, .null]))]) (Rs_Slots cI cZ ws0 h) := by
  refine IC_of l D cI cZ (o := 6) (by decide) (by decide) (Nat.le_of_ble_eq_true rfl) ?_
  intro p e s m args below meth c A ls hc hn hr hlk hl
  have hI := w_arrI
  have hZ := w_arrZ
  have ho3 := cw_I_obj
  have hl : lv_has ls 1 [(0, .ref h)] := hl
  refine kw_load l D cI cZ (pc := 0) (.aload_n 0) 1 0 (by decide +kernel) rfl (lv_at hl 0 rfl) hc ?_
  refine kw_obj l D cI cZ (pc := 1) (idx := 3) (by decide +kernel) (gw_at (i := 1089) (by decide +kernel)) (gw_at (i := 1020) (by decide +kernel)) ho3 hl.1 ⟨Nat.le_of_ble_eq_true rfl, Nat.le_of_ble_eq_true rfl⟩ hc ?_
  refine kw_load l D cI cZ (pc := 4) (.aload_n 0) 1 0 (by decide +kernel) rfl (lv_at hl 0 rfl) hc ?_
  refine kw_push l D cI cZ (pc := 5) (.bipush 8) 2 (8) (by decide +kernel) (by decide) hc ?_
  refine kw_newI l D cI cZ (pc := 7) 8 rfl (by decide) hI ⟨Nat.le_of_ble_eq_true rfl, Nat.le_of_ble_eq_true rfl⟩ (by decide +kernel) hc (fun q1 => ?_)
  refine kw_as [(h, .inr (6, [.null, .null])), (q1, .inl (cI, 8, .inl (fun _ => 0)))] rfl ?_
  refine kw_putR l D cI cZ (pc := 9) (idx := 9) (ci := 6) (k := 0) (fs' := [.ref q1, .null]) (by decide +kernel) (Nat.le_of_ble_eq_true rfl) rfl (by decide +kernel) hn hc ?_
  refine kw_load l D cI cZ (pc := 12) (.aload_n 0) 1 0 (by decide +kernel) rfl (lv_at hl 0 rfl) hc ?_
  refine kw_push l D cI cZ (pc := 13) (.bipush 8) 2 (8) (by decide +kernel) (by decide) hc ?_
  refine kw_newI l D cI cZ (pc := 15) 8 rfl (by decide) hI ⟨Nat.le_of_ble_eq_true rfl, Nat.le_of_ble_eq_true rfl⟩ (by decide +kernel) hc (fun q2 => ?_)
  refine kw_as [(h, .inr (6, [.ref q1, .null])), (q1, .inl (cI, 8, .inl (fun _ => 0))), (q2, .inl (cI, 8, .inl (fun _ => 0)))] rfl ?_
  refine kw_putR l D cI cZ (pc := 17) (idx := 15) (ci := 6) (k := 1) (fs' := [.ref q1, .ref q2]) (by decide +kernel) (Nat.le_of_ble_eq_true rfl) rfl (by decide +kernel) hn hc ?_
  refine kw_load l D cI cZ (pc := 20) (.aload_n 0) 1 0 (by decide +kernel) rfl (lv_at hl 0 rfl) hc ?_
  refine kw_get l D cI cZ (pc := 21) (idx := 9) (ci := 6) (k := 0) (by decide +kernel) rfl (by decide +kernel) hc ?_
  refine kw_push l D cI cZ (pc := 24) (.iconst (-1)) 1 (-1) (by decide +kernel) (by decide) hc ?_
  refine kw_sa [(h, .inr (6, [.ref q1, .ref q2]))] [(q1, .inl (cI, 8, .inl (fun _ => 0))), (q2, .inl (cI, 8, .inl (fun _ => 0)))] rfl ?_
  refine kw_stat l D cI cZ (pc := 25) (idx := 18) (As := [.ref q1, .int (-1)]) (rest := []) (c_I_fill l D cI cZ (ws0 ++ [(h, .inr (6, [.ref q1, .ref q2]))]) [(q2, .inl (cI, 8, .inl (fun _ => 0)))] q1 (fun _ => 0) (-1)) cw_I_fill (gw_at (i := 1090) (by decide +kernel)) (gw_at (i := 1029) (by decide +kernel)) (gw_at (i := 1003) (by decide +kernel)) (show nameOK y_fill 2 = true by decide +kernel) (by decide) ⟨Nat.le_of_ble_eq_true rfl, Nat.le_of_ble_eq_true rfl⟩ ⟨Nat.le_of_ble_eq_true rfl, Nat.le_of_ble_eq_true rfl⟩ hl.1 (Nat.le_of_ble_eq_true rfl) (by decide +kernel) hc (fun ws' hws => ?_)
  obtain ⟨f1, ef1, rfl⟩ := hws
  refine kw_as [(h, .inr (6, [.ref q1, .ref q2])), (q1, .inl (cI, 8, .inl f1)), (q2, .inl (cI, 8, .inl (fun _ => 0)))] rfl ?_
  exact kw_ret l D cI cZ (pc := 28) hr hlk (by decide +kernel) hc ⟨q1, q2, f1, ef1, rfl⟩
end CT0
