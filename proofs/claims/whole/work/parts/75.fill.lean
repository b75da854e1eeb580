/-! Constructors: an array is filled. -/
section KF
variable (l : Launch) (D : va_G) (cI cZ : ClassId)
def y_fill : MethodName := ⟨"java/util/Arrays", "fill", "([II)V"⟩
theorem c_I_fill (ws1 ws2 : va_W) (q : Nat) (f : Nat → Int32) (v : Int32) : IC l D cI cZ 0 0 0 y_fill prog_14_method_103_code 4 [.ref q, .int v] (ws1 ++ (q, .inl (cI, 8, .inl f)) :: ws2) (fun ws' => ∃ f' : Nat → Int32, (∀ j, j < 8 → f' j = v) ∧ ws' = ws1 ++ (q, .inl (cI, 8, .inl f')) :: ws2) := by
  refine IC_of l D cI cZ (o := 13) (by decide) (by decide) (Nat.le_of_ble_eq_true rfl) ?_
  intro p e s m args below meth c A ls hc hn hr hlk hl H locs hP hD hS
  obtain ⟨hx, hb, hml, hown, hts, -, hK, hA⟩ := hc
  have hl : lv_has ls 4 [(0, .ref q), (1, .int v)] := hl
  refine lv_iconst (v := 0) hx hb (by decide +kernel : decode prog_14_method_103_code 0 = .ok (.iconst 0, 1)) (by decide) ?_
  refine lv_istore_n (lv' := [(2, .int 0), (0, .ref q), (1, .int v)]) hx hb (by decide +kernel : decode prog_14_method_103_code 1 = .ok (.istore_n 2, 1)) rfl hl (by decide) rfl (fun ls hl => ?_)
  refine lv_aload_n hx hb (by decide +kernel : decode prog_14_method_103_code 2 = .ok (.aload_n 0, 1)) rfl (lv_at hl 1 rfl) ?_
  refine va_alen (v := nI 8) hx hb hK hP ws1.length 0 app_at rfl rfl (by decide +kernel : decode prog_14_method_103_code 3 = .ok (.arraylength, 1)) ?_
  refine lv_istore_n (lv' := [(3, .int (nI 8)), (2, .int 0), (0, .ref q), (1, .int v)]) hx hb (by decide +kernel : decode prog_14_method_103_code 4 = .ok (.istore_n 3, 1)) rfl hl (by decide) rfl (fun ls hl => ?_)
  have loop : ∀ (n i : Nat) (f : Nat → Int32) (H : Heap) (locs : List Loc) (ls : Array Slot), i + n = 8 → (∀ j, j < i → f j = v) → va_P D cls (ws1 ++ (q, .inl (cI, 8, .inl f)) :: ws2) H → va_D A (ws1 ++ (q, .inl (cI, 8, .inl f)) :: ws2) → va_S A s.heap H locs → lv_has ls 4 [(3, .int (nI 8)), (2, .int (nI i)), (0, .ref q), (1, .int v)] → W p l e (rmi 0 0 0) s m args below meth c H locs 0 0 (MQ below (QI D (fun ws' => ∃ f' : Nat → Int32, (∀ j, j < 8 → f' j = v) ∧ ws' = ws1 ++ (q, .inl (cI, 8, .inl f')) :: ws2) A) args s 0 0 A) (F0 m 5 ls []) := by
    intro n
    induction n with
    | zero =>
      intro i f H locs ls hi hf hP hD hS hl
      refine lv_iload_n hx hb (by decide +kernel : decode prog_14_method_103_code 5 = .ok (.iload_n 2, 1)) rfl (lv_at hl 1 rfl) ?_
      refine lv_iload_n hx hb (by decide +kernel : decode prog_14_method_103_code 6 = .ok (.iload_n 3, 1)) rfl (lv_at hl 0 rfl) ?_
      refine lv_icmp_ge (tgt := 20) hx hb (by decide +kernel : decode prog_14_method_103_code 7 = .ok (.if_icmp .ge 13, 3)) (by decide) (fun c1 => ?_) (fun c1 => absurd (nI_le (by omega) (by omega)) c1)
      exact W.vret (Qc := QI D (fun ws' => ∃ f' : Nat → Int32, (∀ j, j < 8 → f' j = v) ∧ ws' = ws1 ++ (q, .inl (cI, 8, .inl f')) :: ws2) A) hx hb hr (fun t ht hW => ⟨⟨rfl, _, ⟨f, fun j hj => hf j (by omega), rfl⟩, by rw [ht]; exact hP, hD⟩, hS.F ht⟩) hS.2.2 (by decide +kernel : decode prog_14_method_103_code 20 = .ok (.return_, 1)) hlk
    | succ n ih =>
      intro i f H locs ls hi hf hP hD hS hl
      refine lv_iload_n hx hb (by decide +kernel : decode prog_14_method_103_code 5 = .ok (.iload_n 2, 1)) rfl (lv_at hl 1 rfl) ?_
      refine lv_iload_n hx hb (by decide +kernel : decode prog_14_method_103_code 6 = .ok (.iload_n 3, 1)) rfl (lv_at hl 0 rfl) ?_
      refine lv_icmp_ge (tgt := 20) hx hb (by decide +kernel : decode prog_14_method_103_code 7 = .ok (.if_icmp .ge 13, 3)) (by decide) (fun c1 => absurd c1 (nI_ge (by omega) (by omega))) (fun c1 => ?_)
      refine lv_aload_n hx hb (by decide +kernel : decode prog_14_method_103_code 10 = .ok (.aload_n 0, 1)) rfl (lv_at hl 2 rfl) ?_
      refine lv_iload_n hx hb (by decide +kernel : decode prog_14_method_103_code 11 = .ok (.iload_n 2, 1)) rfl (lv_at hl 1 rfl) ?_
      refine lv_iload_n hx hb (by decide +kernel : decode prog_14_method_103_code 12 = .ok (.iload_n 1, 1)) rfl (lv_at hl 3 rfl) ?_
      refine va_iast hx hb hK hP hD hS ws1.length 0 app_at rfl (vp_in_nI (by omega) (by omega)) (by decide +kernel : decode prog_14_method_103_code 13 = .ok (.iastore, 1)) (fun H1 locs1 hP1 hD1 hS1 => ?_)
      rw [app_set, nI_clamp (by omega)] at hP1 hD1
      refine lv_iinc (v := nI (i + 1)) (lv' := [(2, .int (nI (i + 1))), (3, .int (nI 8)), (0, .ref q), (1, .int v)]) hx hb (by decide +kernel : decode prog_14_method_103_code 14 = .ok (.iinc 2 1, 3)) hl (k := 1) rfl (nI_1 i) (by decide) rfl (fun ls hl => ?_)
      refine lv_goto (tgt := 5) hx hb (by decide +kernel : decode prog_14_method_103_code 17 = .ok (.goto (-12), 3)) (by decide) ?_
      refine ih (i + 1) _ H1 locs1 ls (by omega) (fun j hj => ?_) hP1 hD1 hS1 (lv_sub hl [1, 0, 2, 3] rfl)
      unfold upd
      by_cases e : j = i
      · rw [if_pos e]
      · rw [if_neg e]; exact hf j (by omega)
  exact loop 8 0 f H locs ls (by omega) (fun j hj => by omega) hP hD hS hl
end KF
section KG
variable {l : Launch} {D : va_G} {p : Program} {e : Env} {R : Room} {s : State} {m : MethodId} {args : Array Value} {below : List Frame} {meth : Method} {c : Code} {A : Nat → Prop} {Qs : State → Prop} {cells slots pc : Nat} {ls : Array Slot} {st : List Value}
theorem kw_as {ws0 loc x : va_W} (loc' : va_W) (h : loc ++ x = loc') (k : KW l D p e R s m args below meth c A Qs (ws0 ++ loc') cells slots pc ls st) : KW l D p e R s m args below meth c A Qs ((ws0 ++ loc) ++ x) cells slots pc ls st := by
  subst h
  rw [List.append_assoc]
  exact k
theorem kw_sa {ws0 loc' : va_W} (loc x : va_W) (h : loc ++ x = loc') (k : KW l D p e R s m args below meth c A Qs ((ws0 ++ loc) ++ x) cells slots pc ls st) : KW l D p e R s m args below meth c A Qs (ws0 ++ loc') cells slots pc ls st := by
  subst h
  rw [List.append_assoc] at k
  exact k
theorem app_atJ {ws0 loc : va_W} (j : Nat) {x : Nat × va_E} (h : loc[j]? = some x) : (ws0 ++ loc)[ws0.length + j]? = some x := by
  rw [List.getElem?_append_right (by omega), show ws0.length + j - ws0.length = j by omega]
  exact h
theorem app_setJ {ws0 loc : va_W} (j : Nat) (y : Nat × va_E) : (ws0 ++ loc).set (ws0.length + j) y = ws0 ++ loc.set j y := by
  rw [List.set_append_right _ _ (by omega), show ws0.length + j - ws0.length = j by omega]
end KG
