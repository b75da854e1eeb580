/-! The law from its entry. -/
def adr (qs : List Nat) (b k : Nat) : Nat := if k = 1000 then b else qs.getD k 0
theorem tbl_nth {k i : Nat} {w : Jvm.Cond} (h : nth (subT k) i = some w) : w ∈ lw_tbl := by
  rw [nth_eq] at h
  exact subT_mem (List.mem_of_getElem? h)
theorem inst_all : ∀ r ∈ cls, Cond.instantiable r.1 r.2.2 ∈ gw := by
  intro r hr
  simp only [cls, List.mem_cons, List.not_mem_nil, or_false] at hr
  rcases hr with rfl | rfl | rfl | rfl | rfl | rfl | rfl | rfl | rfl | rfl
  · exact gw_at (i := 1023) (by decide +kernel)
  · exact gw_at (i := 1211) (by decide +kernel)
  · exact gw_at (i := 1103) (by decide +kernel)
  · exact gw_at (i := 1170) (by decide +kernel)
  · exact gw_at (i := 1164) (by decide +kernel)
  · exact gw_at (i := 1144) (by decide +kernel)
  · exact gw_at (i := 1085) (by decide +kernel)
  · exact gw_at (i := 2005) (by decide +kernel)
  · exact gw_at (i := 1015) (by decide +kernel)
  · exact gw_at (i := 3233) (by decide +kernel)
theorem nws_at {s : State} {args : Array Value} (hts : ∀ w ∈ lw_tbl, w.before args s = true) : ∀ w ∈ nws, va_Nw w s := by
  intro w hw
  simp only [nws, List.mem_cons, List.not_mem_nil, or_false] at hw
  rcases hw with rfl | rfl | rfl | rfl | rfl | rfl | rfl
  · exact va_Nw.of rfl (hts _ (tbl_nth (k := 2) (i := 115) (by rfl)))
  · exact va_Nw.of rfl (hts _ (tbl_nth (k := 2) (i := 128) (by rfl)))
  · exact va_Nw.of rfl (hts _ (tbl_nth (k := 2) (i := 184) (by rfl)))
  · exact va_Nw.of rfl (hts _ (tbl_nth (k := 3) (i := 27) (by rfl)))
  · exact va_Nw.of rfl (hts _ (tbl_nth (k := 3) (i := 49) (by rfl)))
  · exact va_Nw.of rfl (hts _ (tbl_nth (k := 3) (i := 86) (by rfl)))
  · exact va_Nw.of rfl (hts _ (tbl_nth (k := 3) (i := 167) (by rfl)))
theorem nwi_at {s : State} {args : Array Value} (hts : ∀ w ∈ lw_tbl, w.before args s = true) : ∀ w ∈ nwi, va_Nw w s := by
  intro w hw
  simp only [nwi, List.mem_cons, List.not_mem_nil, or_false] at hw
  rcases hw with rfl | rfl | rfl | rfl
  · exact va_Nw.of rfl (hts _ (tbl_nth (k := 1) (i := 104) (by rfl)))
  · exact va_Nw.of rfl (hts _ (tbl_nth (k := 1) (i := 145) (by rfl)))
  · exact va_Nw.of rfl (hts _ (tbl_nth (k := 1) (i := 171) (by rfl)))
  · exact va_Nw.of rfl (hts _ (tbl_nth (k := 2) (i := 11) (by rfl)))
theorem arr_at {s : State} {args : Array Value} {ty : FieldType} (hn : ∀ C, ty ≠ .object C) (h : (Cond.arrayClass ty).before args s = true) : ∃ cA, ArrOfT s cA ty ∧ va_RA s cA ty := by
  obtain ⟨cA, kA, comp, h1, h2, h3⟩ := Cond.arrayClass_spec h
  refine ⟨cA, fun n z => ⟨fun k h => (by cases h), kA, h2, comp, h3⟩, ?_⟩
  cases ty with
  | object C => exact absurd rfl (hn C)
  | _ => exact h1
set_option maxHeartbeats 4000000 in
set_option maxRecDepth 100000 in
/-- THE LAW, from its entry -/
theorem whole_start {p : Program} {e : Env} {s : State} {m : MethodId} {below : List Frame} {meth : Method} {c : Code} (l : Launch) {b L : Nat} {xs : Nat → Int32} (hL : L ≤ 3072) (C0 : lw_At p s m meth c b L xs) : W p l e room_1 s m #[Value.ref b] below meth c s.heap [] 0 0 (lw_Z below #[Value.ref b] s) (entryFrame m ([Value.ref b] : List Value).toArray 4) := by
  obtain ⟨hx, hb, hr, hml, hown, hts, hX, hbl, hlocks, hgv⟩ := id C0
  have htg : ∀ w ∈ gw, w.before #[Value.ref b] s = true := fun w hw => hts w (List.mem_filter.mp hw).1
  have hnwi := nwi_at hts
  have hnws := nws_at hts
  obtain ⟨cI, hI1, hI2⟩ := arr_at (ty := .int) (fun C h => by cases h) (htg _ w_arrI)
  obtain ⟨cZ, hZ1, hZ2⟩ := arr_at (ty := .boolean) (fun C h => by cases h) (htg _ w_arrZ)
  have hkn : ∀ k : Nat, ∃ (cC : ClassId) (iS : Nat → Nat), ∀ q : vw_C, cls[k]? = some q → u_Kn s q.1 q.2.1 q.2.2 cC iS := by
    intro k
    cases hq : cls[k]? with
    | none => exact ⟨cI, fun _ => 0, fun q h => by cases h⟩
    | some r =>
      have hr' : r ∈ cls := List.mem_of_getElem? hq
      obtain ⟨cC, iS, h⟩ := u_known htg (cs_in hr') (htg _ (inst_all r hr'))
      exact ⟨cC, iS, fun q h' => by cases h'; exact h⟩
  obtain ⟨D, hKc⟩ : ∃ D : va_G, ∀ (k : Nat) (q : vw_C), cls[k]? = some q → u_Kn s q.1 q.2.1 q.2.2 (D.1 k) (D.2 k) :=
    ⟨(fun k => Classical.choose (hkn k), fun k => Classical.choose (Classical.choose_spec (hkn k))), fun k q h => Classical.choose_spec (Classical.choose_spec (hkn k)) q h⟩
  have hK : va_K D cls (tysD cI cZ) s := by
    refine ⟨hKc, fun k q h => ?_⟩
    match k, h with
    | 0, h => cases h; exact ⟨hI1, hI2⟩
    | 1, h => cases h; exact ⟨hZ1, hZ2⟩
    | k + 2, h => simp [tysD] at h
  have hA : ∀ q : Nat, s.heap.size ≤ q → (fun q : Nat => s.heap.size ≤ q) q := fun _ h => h
  have hbA : ¬ (fun q : Nat => s.heap.size ≤ q) b := Nat.not_le.mpr hbl
  have hcx : Kx D cI cZ 10 code 4 p s m #[Value.ref b] c (fun q : Nat => s.heap.size ≤ q) := ⟨hx, hb, hml, hown, htg, hnwi, hK, hA⟩
  have hP0 : va_P D cls [] s.heap := fun k q h => by simp at h
  have hD0 : va_D (fun q : Nat => s.heap.size ≤ q) [] := ⟨fun i j p q h => by simp at h, fun k q h => by simp at h⟩
  have hl := lv_entry ([.ref b]) (n := 4) (Nat.le_of_ble_eq_true rfl)
  rw [lg_entry_eq]
  generalize (lg_sl ([.ref b]) ++ List.replicate (4 - (lg_sl ([.ref b])).length) Slot.unset).toArray = ls at hl ⊢
  have hl : lv_has ls 4 [(0, .ref b)] := hl
  refine (?_ : KW l D p e room_1 s m #[Value.ref b] below meth c (fun q : Nat => s.heap.size ≤ q) (lw_Z below #[Value.ref b] s) [] 0 0 0 ls []) s.heap [] hP0 hD0 va_S.rf
  refine kw_new l D cI cZ (pc := 0) (idx := 7) 8 ("PlacingDesk", FT8, 7) [.null, .null, .null, .null, .null, .null, .null] rfl (gw_at (i := 1014) (by decide +kernel)) (gw_at (i := 1015) (by decide +kernel)) (gw_at (i := 1001) (by decide +kernel)) (by decide +kernel) ⟨Nat.le_of_ble_eq_true rfl, Nat.le_of_ble_eq_true rfl⟩ (by decide +kernel) hcx (fun h0 => ?_)
  refine kw_dup l D cI cZ (pc := 3) (by decide +kernel) hcx ?_
  refine kw_init l D cI cZ (pc := 4) (idx := 9) (b := h0) (As := []) (rest := [.ref h0]) (c_I_Desk l D cI cZ [] h0) cw_I_Desk (Or.inl (gw_at (i := 1016) (by decide +kernel))) (gw_at (i := 1017) (by decide +kernel)) (gw_at (i := 1001) (by decide +kernel)) rfl (show nameOK ⟨"PlacingDesk", "<init>", "()V"⟩ 0 = true by decide +kernel) (by decide) ⟨Nat.le_of_ble_eq_true rfl, Nat.le_of_ble_eq_true rfl⟩ ⟨Nat.le_of_ble_eq_true rfl, Nat.le_of_ble_eq_true rfl⟩ hl.1 (Nat.le_of_ble_eq_true rfl) (by decide +kernel) hcx (fun ws' hws => ?_)
  obtain ⟨q1, q2, q3, q4, q5, q6, q7, q8, q9, q10, q11, q12, q13, q14, q15, q16, q17, q18, q19, q20, q21, q22, q23, q24, q25, q26, q27, q28, q29, q30, f1, f2, f3, ef1, ef2, ef3, rfl⟩ := hws
  refine kw_astore l D cI cZ (pc := 7) (k := 1) [(1, .ref h0), (0, .ref b)] (by decide +kernel) hl (by decide) rfl hcx (fun ls hl => ?_)
  refine kw_new l D cI cZ (pc := 8) (idx := 10) 9 ("PlacingDeskModel", FT9, 40) [.null, .null, .null, .null, .int 0, .null, .null, .null, .null, .null, .null, .int 0, .int 0, .int 0, .int 0, .int 0, .int 0, .null, .null, .int 0, .null, .int 0, .int 0, .int 0, .int 0, .null, .null, .null, .int 0, .int 0, .int 0, .int 0, .int 0, .int 0, .int 0, .int 0, .int 0, .null, .null, .null] rfl (gw_at (i := 3232) (by decide +kernel)) (gw_at (i := 3233) (by decide +kernel)) (gw_at (i := 1011) (by decide +kernel)) (by decide +kernel) ⟨Nat.le_of_ble_eq_true rfl, Nat.le_of_ble_eq_true rfl⟩ (by decide +kernel) hcx (fun h1 => ?_)
  refine kw_dup l D cI cZ (pc := 11) (by decide +kernel) hcx ?_
  refine kw_init l D cI cZ (pc := 12) (idx := 12) (b := h1) (As := []) (rest := [.ref h1]) (c_I_Model l D cI cZ _ h1) cw_I_Model (Or.inl (gw_at (i := 3234) (by decide +kernel))) (gw_at (i := 3235) (by decide +kernel)) (gw_at (i := 1011) (by decide +kernel)) rfl (show nameOK ⟨"PlacingDeskModel", "<init>", "()V"⟩ 0 = true by decide +kernel) (by decide) ⟨Nat.le_of_ble_eq_true rfl, Nat.le_of_ble_eq_true rfl⟩ ⟨Nat.le_of_ble_eq_true rfl, Nat.le_of_ble_eq_true rfl⟩ hl.1 (Nat.le_of_ble_eq_true rfl) (by decide +kernel) hcx (fun ws' hws => ?_)
  obtain ⟨p1, p2, p3, p4, p5, p6, p7, p8, p9, p10, p11, p12, p13, p14, p15, p16, p17, p18, p19, g1, g2, g3, eg1, eg2, eg3, rfl⟩ := hws
  refine kw_astore l D cI cZ (pc := 15) (k := 2) [(2, .ref h1), (1, .ref h0), (0, .ref b)] (by decide +kernel) hl (by decide) rfl hcx (fun ls hl => ?_)
  refine kw_push l D cI cZ (pc := 16) (.iconst 0) 1 0 (by decide +kernel) (by decide) hcx ?_
  refine kw_istore l D cI cZ (pc := 17) (k := 3) [(3, .int 0), (2, .ref h1), (1, .ref h0), (0, .ref b)] (by decide +kernel) hl (by decide) rfl hcx (fun ls hl => ?_)
  intro H locs hP hD hS
  have hwd : wd cI cZ (adr [h0, q1, q2, q3, q4, q5, q6, q7, q8, q9, q10, q11, q12, q13, q14, q15, q16, q17, q18, q19, q20, q21, q22, q23, q24, q25, q26, q27, q28, q29, q30, h1, p1, p2, p3, p4, p5, p6, p7, p8, p9, p10, p11, p12, p13, p14, p15, p16, p17, p18, p19] b) (M00 xs f1 f2 f3 g1 g2 g3) = [(h0, .inr (8, [.ref q1, .ref q11, .ref q14, .ref q15, .ref q17, .ref q20, .ref q26])), (q1, .inr (0, [.ref q2, .ref q3, .ref q4, .ref q5, .int 0, .ref q6, .ref q7, .ref q8, .ref q9, .ref q10])), (q2, .inl (cI, 8, .inl f1)), (q3, .inl (cI, 8, .inl f2)), (q4, .inl (cI, 8, .inl (fun _ => 0))), (q5, .inl (cZ, 8, .inl (fun _ => 0))), (q6, .inl (cI, 10, .inl (fun _ => 0))), (q7, .inl (cI, 10, .inl (fun _ => 0))), (q8, .inl (cI, 10, .inl (fun _ => 0))), (q9, .inl (cI, 10, .inl (fun _ => 0))), (q10, .inl (cI, 10, .inl (fun _ => 0))), (q11, .inr (6, [.ref q12, .ref q13])), (q12, .inl (cI, 8, .inl f3)), (q13, .inl (cI, 8, .inl (fun _ => 0))), (q14, .inr (2, [.int 2, .int 2, .int 3, .int 4, .int 10])), (q15, .inr (5, [.ref q16, .int 0, .int 0])), (q16, .inl (cI, 10, .inl (fun _ => 0))), (q17, .inr (4, [.ref q1, .ref q11, .ref q14, .ref q15, .ref q18, .ref q19])), (q18, .inr (3, [.int 0, .int 0, .int 0, .int 0])), (q19, .inl (cI, 8, .inl (fun _ => 0))), (q20, .inr (1, [.ref q1, .ref q11, .ref q14, .int 0, .ref q21, .ref q22, .ref q23, .ref q24, .ref q25])), (q21, .inl (cI, 7, .inl (fun _ => 0))), (q22, .inl (cI, 128, .inl (fun _ => 0))), (q23, .inl (cI, 128, .inl (fun _ => 0))), (q24, .inl (cI, 128, .inl (fun _ => 0))), (q25, .inl (cI, 1024, .inl (fun _ => 0))), (q26, .inr (7, [.ref q1, .ref q11, .ref q14, .ref q15, .ref q27, .ref q28, .int 1, .int 0, .int 0, .int 0, .int 0, .int 0, .int 0, .int (-1), .int 0, .int 0, .ref q29, .ref q30])), (q27, .inr (3, [.int 0, .int 0, .int 0, .int 0])), (q28, .inl (cZ, 201, .inl (fun _ => 0))), (q29, .inl (cI, 10, .inl (fun _ => 0))), (q30, .inl (cI, 8, .inl (fun _ => 0))), (h1, .inr (9, [.ref p1, .ref p2, .ref p3, .ref p4, .int 0, .ref p5, .ref p6, .ref p7, .ref p8, .ref p9, .ref p10, .int 2, .int 2, .int 3, .int 4, .int 10, .int 0, .ref p11, .ref p12, .int 1, .ref p13, .int 0, .int 0, .int 0, .int 0, .ref p14, .ref p15, .ref p16, .int 0, .int 0, .int 0, .int 0, .int 0, .int 0, .int 0, .int 0, .int (-1), .ref p17, .ref p18, .ref p19])), (p1, .inl (cI, 8, .inl g1)), (p2, .inl (cI, 8, .inl g2)), (p3, .inl (cI, 8, .inl (fun _ => 0))), (p4, .inl (cZ, 8, .inl (fun _ => 0))), (p5, .inl (cI, 10, .inl (fun _ => 0))), (p6, .inl (cI, 10, .inl (fun _ => 0))), (p7, .inl (cI, 10, .inl (fun _ => 0))), (p8, .inl (cZ, 100, .inl (fun _ => 0))), (p9, .inl (cI, 8, .inl g3)), (p10, .inl (cI, 8, .inl (fun _ => 0))), (p11, .inl (cI, 10, .inl (fun _ => 0))), (p12, .inl (cZ, 201, .inl (fun _ => 0))), (p13, .inl (cZ, 10, .inl (fun _ => 0))), (p14, .inl (cI, 10, .inl (fun _ => 0))), (p15, .inl (cI, 10, .inl (fun _ => 0))), (p16, .inl (cI, 10, .inl (fun _ => 0))), (p17, .inl (cI, 10, .inl (fun _ => 0))), (p18, .inl (cI, 10, .inl (fun _ => 0))), (p19, .inl (cZ, 10, .inl (fun _ => 0)))] := rfl
  have hP2 : va_P D cls (wd cI cZ (adr [h0, q1, q2, q3, q4, q5, q6, q7, q8, q9, q10, q11, q12, q13, q14, q15, q16, q17, q18, q19, q20, q21, q22, q23, q24, q25, q26, q27, q28, q29, q30, h1, p1, p2, p3, p4, p5, p6, p7, p8, p9, p10, p11, p12, p13, p14, p15, p16, p17, p18, p19] b) (M00 xs f1 f2 f3 g1 g2 g3)) H := by rw [hwd]; exact hP
  have hD2 : va_D (fun q : Nat => s.heap.size ≤ q) (wd cI cZ (adr [h0, q1, q2, q3, q4, q5, q6, q7, q8, q9, q10, q11, q12, q13, q14, q15, q16, q17, q18, q19, q20, q21, q22, q23, q24, q25, q26, q27, q28, q29, q30, h1, p1, p2, p3, p4, p5, p6, p7, p8, p9, p10, p11, p12, p13, p14, p15, p16, p17, p18, p19] b) (M00 xs f1 f2 f3 g1 g2 g3)) := by rw [hwd]; exact hD
  have hlv : lvl (adr [h0, q1, q2, q3, q4, q5, q6, q7, q8, q9, q10, q11, q12, q13, q14, q15, q16, q17, q18, q19, q20, q21, q22, q23, q24, q25, q26, q27, q28, q29, q30, h1, p1, p2, p3, p4, p5, p6, p7, p8, p9, p10, p11, p12, p13, p14, p15, p16, p17, p18, p19] b) 0 [some (.inr 1000), some (.inr 0), some (.inr 31), some (.inl (nI 0))] = [(0, .ref b), (1, .ref h0), (2, .ref h1), (3, .int 0)] := rfl
  have hab : adr [h0, q1, q2, q3, q4, q5, q6, q7, q8, q9, q10, q11, q12, q13, q14, q15, q16, q17, q18, q19, q20, q21, q22, q23, q24, q25, q26, q27, q28, q29, q30, h1, p1, p2, p3, p4, p5, p6, p7, p8, p9, p10, p11, p12, p13, p14, p15, p16, p17, p18, p19] b 1000 = b := rfl
  generalize adr [h0, q1, q2, q3, q4, q5, q6, q7, q8, q9, q10, q11, q12, q13, q14, q15, q16, q17, q18, q19, q20, q21, q22, q23, q24, q25, q26, q27, q28, q29, q30, h1, p1, p2, p3, p4, p5, p6, p7, p8, p9, p10, p11, p12, p13, p14, p15, p16, p17, p18, p19] b = ad at hP2 hD2 hlv hab
  have hx1 : va_X (ad 1000) L xs s s.heap := by rw [hab]; exact hX
  have hx2 : ad 1000 < s.heap.size := by rw [hab]; exact hbl
  have hx3 : ¬ (fun q : Nat => s.heap.size ≤ q) (ad 1000) := by rw [hab]; exact hbA
  refine law_loop (E := (l, D, cI, cZ, ad)) hL ⟨hx, hb, hml, hown, htg, hnws, hK, hA, Or.inr ⟨hx1, hx2, hx3⟩, Nat.le_of_ble_eq_true rfl, Nat.le_of_ble_eq_true rfl, Nat.le_of_ble_eq_true rfl, Nat.le_of_ble_eq_true rfl⟩ (fun pc L0 M hd => ?_) L 0 (M00 xs f1 f2 f3 g1 g2 g3) (by omega) (by omega) (RX_first ef1 ef2 ef3 eg1 eg2 eg3) H locs ls hP2 hD2 hS rfl (by rw [hlv]; exact lv_sub hl [3, 2, 1, 0] rfl)
  intro H locs ls hP hD hS hX' hls
  exact va_forget (fun q hq => hS.2.2 q hq) (W.widen (k := 600000) (n := 7302250) (Nat.le_of_ble_eq_true rfl) (Nat.le_of_ble_eq_true rfl) (lw_ret hx hb hr hlocks hd))
