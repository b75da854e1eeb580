/-! A step of the small machine is a step of the real one. -/
section MM
variable (l : Launch) (D : va_G) (cI cZ : ClassId) (a : Nat → Nat)
variable {p : Program} {e : Env} {R : Room} {s : State} {m : MethodId} {args : Array Value} {below : List Frame} {meth : Method} {c : Code} {A : Nat → Prop} {cells slots : Nat} {Qs : State → Prop}
variable {mi SL : Nat} {X0 : Nat → Int32}
/-- getfield -/
theorem so_get (hc : Cx D cI cZ a mi SL X0 p R s m args c A cells slots) {pc i x y k : Nat} {L : Lc} {r : List V} {M : Mem} {v : V} {ts : List Nat} {t : Nat} (hd : decode (mBytes mi) pc = .ok (.getfield i, 3)) (hf : (mOwn mi, i, x, y) ∈ flinks) (hs : shp k = some (.inr (x, ts))) (ht : nth ts y = some t) (hv : fv a M k y t = vv a v)
    (hk : JW l D cI cZ a X0 p e R s m args below meth c A cells slots Qs (mMax mi) (pc + 3) L (v :: r) M) : JW l D cI cZ a X0 p e R s m args below meth c A cells slots Qs (mMax mi) pc L (.inr k :: r) M := by
  intro H locs ls hP hD hS hX hl
  obtain ⟨hx, hb, hml, hown, hts, -, hK, -⟩ := hc
  obtain ⟨q, hq, hy, hlk⟩ := fl_get hf
  have hq' : q ∈ cls := nth_mem hq
  have hg := wd_get cI cZ a (M := M) hs
  have hfv : (fval a M k 0 ts)[y]? = some (vv a v) := by
    rw [fval_get, ← nth_eq, ht, ← hv]
    simp
  exact va_get hx hb hts (cs_in hq') hown hK hP k hg (by rw [← nth_eq]; exact hq) y hy (hts _ hlk) (fun _ h => h) hfv hd (hk H locs ls hP hD hS hX hl)
/-- putfield of an int or a boolean -/
theorem so_put (hc : Cx D cI cZ a mi SL X0 p R s m args c A cells slots) {pc i x y k : Nat} {L : Lc} {r : List V} {M : Mem} {z : Int32} {ts : List Nat} {t : Nat} (hd : decode (mBytes mi) pc = .ok (.putfield i, 3)) (hf : (mOwn mi, i, x, y) ∈ flinks) (hs : shp k = some (.inr (x, ts))) (ht : nth ts y = some t) (h2 : t = 0 ∨ t = 1 ∧ (z = 0 ∨ z = 1)) (hk0 : k ≠ 1000)
    (hk : JW l D cI cZ a X0 p e R s m args below meth c A cells slots Qs (mMax mi) (pc + 3) L r (mset M k y z)) : JW l D cI cZ a X0 p e R s m args below meth c A cells slots Qs (mMax mi) pc L (.inl z :: .inr k :: r) M := by
  intro H locs ls hP hD hS hX hl
  obtain ⟨hx, hb, hml, hown, hts, -, hK, -⟩ := hc
  obtain ⟨q, hq, hy, hlk⟩ := fl_get hf
  have hq' : q ∈ cls := nth_mem hq
  have hg := wd_get cI cZ a (M := M) hs
  obtain ⟨q2, hq2, hlen, hty⟩ := sh_get hs
  cases hq.symm.trans hq2
  have hyl : y < (fval a M k 0 ts).length := by rw [fval_len, hlen]; exact hy
  have ht2 : t < 2 := by omega
  have hset := wd_set cI cZ a (M := M) (j := y) (x := z) hs (celE_obj cI cZ a (M := M) (k := k) (ci := x) (x := z) ht ht2)
  have hM : mset M k y z 1000 = X0 := by
    simp only [mset]
    rw [if_neg (fun h => hk0 h.symm)]
    exact hX
  have htk := hty y t ht
  obtain ⟨ty, h3, h4, h5, h6⟩ : ∃ ty : FieldType, parseFieldDescriptor (q.2.1 y).2.2.1 = some ty ∧ (q.2.1 y).2.2.2 = false ∧ narrow ty (.int z) = .int z ∧ fits ty (.int z) = true := by
    rcases h2 with rfl | ⟨rfl, h2⟩
    · simp only [tyOK, Bool.and_eq_true, decide_eq_true_eq, Bool.not_eq_true'] at htk
      exact ⟨_, htk.1, htk.2, rfl, rfl⟩
    · simp only [tyOK, Bool.and_eq_true, decide_eq_true_eq, Bool.not_eq_true'] at htk
      refine ⟨_, htk.1, htk.2, ?_, ?_⟩
      · rcases h2 with rfl | rfl <;> decide
      · rcases h2 with rfl | rfl <;> decide
  refine va_put hx hb hts (cs_in hq') (fty q) (cs_ty hq') (cs_nm hq') hown hK hP hD hS k hg (by rw [← nth_eq]; exact hq) y hy (hts _ hlk) (fun _ h => h) h4 h3 h5 h6 hyl hd (fun H1 locs1 hP1 hD1 hS1 => ?_)
  rw [show vv a (Sum.inl z) = Value.int z from rfl, hset] at hP1 hD1
  exact hk H1 locs1 ls hP1 hD1 hS1 hM hl
theorem so_aldI (hc : Cx D cI cZ a mi SL X0 p R s m args c A cells slots) {pc k n : Nat} {i : Int32} {L : Lc} {r : List V} {M : Mem} (hd : decode (mBytes mi) pc = .ok (.iaload, 1)) (hs : shp k = some (.inl (n, false))) (hi : vp_in i n)
    (hk : JW l D cI cZ a X0 p e R s m args below meth c A cells slots Qs (mMax mi) (pc + 1) L (.inl (M k i.toNatClampNeg) :: r) M) : JW l D cI cZ a X0 p e R s m args below meth c A cells slots Qs (mMax mi) pc L (.inl i :: .inr k :: r) M := by
  intro H locs ls hP hD hS hX hl
  obtain ⟨hx, hb, hml, hown, hts, -, hK, -⟩ := hc
  exact va_iald hx hb hK hP k 0 (wd_get cI cZ a (M := M) hs) rfl hi hd (hk H locs ls hP hD hS hX hl)
theorem so_aldZ (hc : Cx D cI cZ a mi SL X0 p R s m args c A cells slots) {pc k n : Nat} {i : Int32} {L : Lc} {r : List V} {M : Mem} (hd : decode (mBytes mi) pc = .ok (.baload, 1)) (hs : shp k = some (.inl (n, true))) (hi : vp_in i n)
    (hk : JW l D cI cZ a X0 p e R s m args below meth c A cells slots Qs (mMax mi) (pc + 1) L (.inl (M k i.toNatClampNeg) :: r) M) : JW l D cI cZ a X0 p e R s m args below meth c A cells slots Qs (mMax mi) pc L (.inl i :: .inr k :: r) M := by
  intro H locs ls hP hD hS hX hl
  obtain ⟨hx, hb, hml, hown, hts, -, hK, -⟩ := hc
  exact va_zald hx hb hK hP k 1 (wd_get cI cZ a (M := M) hs) rfl hi hd (hk H locs ls hP hD hS hX hl)
theorem so_scr (hc : Cx D cI cZ a mi SL X0 p R s m args c A cells slots) {pc : Nat} {i : Int32} {L : Lc} {r : List V} {M : Mem} (hd : decode (mBytes mi) pc = .ok (.iaload, 1)) (hi : vp_in i (SL - 1))
    (hk : JW l D cI cZ a X0 p e R s m args below meth c A cells slots Qs (mMax mi) (pc + 1) L (.inl (M 1000 i.toNatClampNeg) :: r) M) : JW l D cI cZ a X0 p e R s m args below meth c A cells slots Qs (mMax mi) pc L (.inl i :: .inr 1000 :: r) M := by
  intro H locs ls hP hD hS hX hl
  obtain ⟨hx, hb, hml, hown, hts, -, hK, -, hscr, -⟩ := hc
  rcases hscr with h0 | ⟨h1, h2, h3⟩
  · subst h0
    exact absurd (Or.inr (Nat.zero_le _)) hi
  · refine va_sld hx hb h1 h2 h3 hS hi hd ?_
    have := hk H locs ls hP hD hS hX hl
    rw [hX] at this
    exact this
theorem so_astI (hc : Cx D cI cZ a mi SL X0 p R s m args c A cells slots) {pc k n : Nat} {i z : Int32} {L : Lc} {r : List V} {M : Mem} (hd : decode (mBytes mi) pc = .ok (.iastore, 1)) (hs : shp k = some (.inl (n, false))) (hi : vp_in i n) (hk0 : k ≠ 1000)
    (hk : JW l D cI cZ a X0 p e R s m args below meth c A cells slots Qs (mMax mi) (pc + 1) L r (mset M k i.toNatClampNeg z)) : JW l D cI cZ a X0 p e R s m args below meth c A cells slots Qs (mMax mi) pc L (.inl z :: .inl i :: .inr k :: r) M := by
  intro H locs ls hP hD hS hX hl
  obtain ⟨hx, hb, hml, hown, hts, -, hK, -⟩ := hc
  have hM : mset M k i.toNatClampNeg z 1000 = X0 := by
    simp only [mset]
    rw [if_neg (fun h => hk0 h.symm)]
    exact hX
  have hset := wd_set cI cZ a (M := M) (j := i.toNatClampNeg) (x := z) hs (celE_arrI cI cZ a)
  refine va_iast hx hb hK hP hD hS k 0 (wd_get cI cZ a (M := M) hs) rfl hi hd (fun H1 locs1 hP1 hD1 hS1 => ?_)
  rw [hset] at hP1 hD1
  exact hk H1 locs1 ls hP1 hD1 hS1 hM hl
theorem so_astZ (hc : Cx D cI cZ a mi SL X0 p R s m args c A cells slots) {pc k n : Nat} {i z : Int32} {L : Lc} {r : List V} {M : Mem} (hd : decode (mBytes mi) pc = .ok (.bastore, 1)) (hs : shp k = some (.inl (n, true))) (hi : vp_in i n) (hz : z = 0 ∨ z = 1) (hk0 : k ≠ 1000)
    (hk : JW l D cI cZ a X0 p e R s m args below meth c A cells slots Qs (mMax mi) (pc + 1) L r (mset M k i.toNatClampNeg z)) : JW l D cI cZ a X0 p e R s m args below meth c A cells slots Qs (mMax mi) pc L (.inl z :: .inl i :: .inr k :: r) M := by
  intro H locs ls hP hD hS hX hl
  obtain ⟨hx, hb, hml, hown, hts, -, hK, -⟩ := hc
  have hM : mset M k i.toNatClampNeg z 1000 = X0 := by
    simp only [mset]
    rw [if_neg (fun h => hk0 h.symm)]
    exact hX
  have hn : vp_nar .boolean z = z := by rcases hz with rfl | rfl <;> decide
  have hset := wd_set cI cZ a (M := M) (j := i.toNatClampNeg) (x := z) hs (celE_arrZ cI cZ a)
  refine va_zast hx hb hK hP hD hS k 1 (wd_get cI cZ a (M := M) hs) rfl hi hd (fun H1 locs1 hP1 hD1 hS1 => ?_)
  rw [hn, hset] at hP1 hD1
  exact hk H1 locs1 ls hP1 hD1 hS1 hM hl
theorem so_len (hc : Cx D cI cZ a mi SL X0 p R s m args c A cells slots) {pc k n : Nat} {b : Bool} {L : Lc} {r : List V} {M : Mem} (hd : decode (mBytes mi) pc = .ok (.arraylength, 1)) (hs : shp k = some (.inl (n, b)))
    (hk : JW l D cI cZ a X0 p e R s m args below meth c A cells slots Qs (mMax mi) (pc + 1) L (.inl (nI n) :: r) M) : JW l D cI cZ a X0 p e R s m args below meth c A cells slots Qs (mMax mi) pc L (.inr k :: r) M := by
  intro H locs ls hP hD hS hX hl
  obtain ⟨hx, hb, hml, hown, hts, -, hK, -⟩ := hc
  cases b with
  | false => exact va_alen hx hb hK hP k 0 (wd_get cI cZ a (M := M) hs) rfl (v := nI n) rfl hd (hk H locs ls hP hD hS hX hl)
  | true => exact va_alen hx hb hK hP k 1 (wd_get cI cZ a (M := M) hs) rfl (v := nI n) rfl hd (hk H locs ls hP hD hS hX hl)
theorem so_slen (hc : Cx D cI cZ a mi SL X0 p R s m args c A cells slots) (h0 : SL ≠ 0) {pc : Nat} {L : Lc} {r : List V} {M : Mem} (hd : decode (mBytes mi) pc = .ok (.arraylength, 1))
    (hk : JW l D cI cZ a X0 p e R s m args below meth c A cells slots Qs (mMax mi) (pc + 1) L (.inl (nI (SL - 1)) :: r) M) : JW l D cI cZ a X0 p e R s m args below meth c A cells slots Qs (mMax mi) pc L (.inr 1000 :: r) M := by
  intro H locs ls hP hD hS hX hl
  obtain ⟨hx, hb, hml, hown, hts, -, hK, -, hscr, -⟩ := hc
  rcases hscr with h0' | ⟨h1, h2, h3⟩
  · exact absurd h0' h0
  · exact va_slen hx hb h1 h2 h3 hS hd (hk H locs ls hP hD hS hX hl)
theorem free_A (hc : Cx D cI cZ a mi SL X0 p R s m args c A cells slots) {M : Mem} {H : Heap} {locs : List Loc} (hD : va_D A (wd cI cZ a M)) (hS : va_S A s.heap H locs) : ∀ q, va_A (wd cI cZ a M) H.size q → A q := by
  obtain ⟨-, -, -, -, -, -, -, hA, -⟩ := hc
  intro q h
  rcases h with ⟨k, E, h⟩ | h
  · exact hD.2 k _ h
  · exact hA q (Nat.le_trans hS.1 h)
theorem retv_push (t : Option FieldType) (r : Int32) (st : List V) : (retv t r).toList ++ st.map (vv a) = (pushR t r st).map (vv a) := by
  cases t <;> rfl
/-- a static call -/
theorem so_callS {d : Nat} (hc : Cx D cI cZ a mi SL X0 p R s m args c A cells slots) (hR : (rmd d).frames + 1 ≤ R.frames ∧ 39 + (rmd d).locals ≤ R.locals) {pc i x n : Nat} {L : Lc} {As r : List V} {M : Mem} {Q : Int32 → Mem → Prop} (hd : decode (mBytes mi) pc = .ok (.invokestatic i, 3)) (hx134 : x < 134) (hmath : isMath x = false) (hlaw : isLaw x = false) (hcw : codeW x ∈ gw) {bn : Bool} (hl : (mOwn mi, i, x, bn) ∈ mlinks) (hst : mStat x = true) (hn : As.length = mArgs x) (hr8 : r.length ≤ 8) (hCM : CM l D cI cZ a d x As M Q)
    (hk : ∀ (z : Int32) (M' : Mem), Q z M' → JW l D cI cZ a X0 p e R s m args below meth c A cells slots Qs (mMax mi) (pc + 3) L (pushR (mRet x) z r) M') : JW l D cI cZ a X0 p e R s m args below meth c A cells slots Qs (mMax mi) pc L (As.reverse ++ r) M := by
  intro H locs ls hP hD hS hX hls
  obtain ⟨hx, hb, hml, hown, hts, hnw, hK, hA, hscr, hR1, hR2, hcel, hslo⟩ := id hc
  obtain ⟨hh, hw⟩ := mw_get hx134 hmath hlaw
  simp only [mwOK, Bool.and_eq_true, decide_eq_true_eq] at hw
  obtain ⟨-, w2, w3, w4, w5, w6, w7, w8, w9⟩ := hw
  rw [hst] at w9
  have hmax : mMax x ≤ 20 := Nat.le_of_ble_eq_true w8
  have hfree := free_A D cI cZ a hc hD hS
  have hpre : PreS s H (va_Pc (As.map (vv a)) (Bp D cI cZ a M H.size)) (As.map (vv a)) := ⟨Bp_blind D cI cZ a, fun U hU hW => ⟨rfl, by rw [hU], by rw [hU]; exact hP, va_K.moved hW.alike hK, hD.weaken (fun _ _ _ _ => trivial), nws_warm hW hnw⟩⟩
  have hstack : (F0 m pc ls ((As.reverse ++ r).map (vv a))).stack = (As.map (vv a)).reverse ++ r.map (vv a) := by
    show (As.reverse ++ r).map (vv a) = _
    rw [List.map_append, List.map_reverse]
  have hsum : 2 * (F0 m pc ls ((As.reverse ++ r).map (vv a))).monitorRoom + ((r.map (vv a)).map fun v => v.category).sum ≤ 8 := lv_room (by rw [vv_sum]; exact hr8)
  have hini := hts _ (gw_at w7)
  have hRx : (rmd d).frames + 1 ≤ R.frames ∧ 8 + (mMax x + 11) + (rmd d).locals ≤ R.locals := ⟨hR.1, by omega⟩
  have hrun : va_Run p l e R s m args below meth c H locs cells slots 0 0 (F0 m pc ls ((As.reverse ++ r).map (vv a))) (r.map (vv a)) (Qg D cI cZ a Q (M 1000) (mRet x) (va_A (wd cI cZ a M) H.size) (As.map (vv a)).toArray) (va_A (wd cI cZ a M) H.size) := by
    rcases lk_get hl with ⟨-, hlk⟩ | ⟨-, hlk, -⟩
    · exact va_runS (n := mArgs x) ⟨hx, hb, hml, hown, hts⟩ (hCM H.size) ⟨callB_of (mArgs x) hts (gw_good hcw) rfl rfl rfl hini (hts _ hlk) ⟨w4, w5, w6⟩ hRx, hts _ (gw_at w9)⟩ hpre rfl (by simp [hn]) hls.1 hstack hsum hd ⟨hcel, hslo⟩
    · exact va_runSN (n := mArgs x) ⟨hx, hb, hml, hown, hts⟩ (hCM H.size) ⟨va_cnB (mArgs x) hts (gw_good hcw) rfl rfl rfl (hnw _ hlk) hini ⟨w4, w5, w6⟩ hRx, hts _ (gw_at w9), trivial⟩ hpre rfl (by simp [hn]) hls.1 hstack hsum hd ⟨hcel, hslo⟩
  refine va_callg l D cI cZ a hrun hS (fun q _ h => hfree q h) hfree (fun z M' H1 locs1 hQ hM hP1 hD1 hS1 => ?_)
  rw [retv_push]
  exact hk z M' hQ H1 locs1 ls hP1 (hD1.weaken (fun _ q _ h => hfree q.1 h)) hS1 (hM.trans hX) hls
/-- a call of an object's method -/
theorem so_callV {d : Nat} (hc : Cx D cI cZ a mi SL X0 p R s m args c A cells slots) (hR : (rmd d).frames + 1 ≤ R.frames ∧ 39 + (rmd d).locals ≤ R.locals) {pc i x n k : Nat} {L : Lc} {As r : List V} {M : Mem} {Q : Int32 → Mem → Prop} {ts : List Nat} (hd : decode (mBytes mi) pc = .ok (.invokevirtual i, 3)) (hx134 : x < 134) (hmath : isMath x = false) (hlaw : isLaw x = false) (hcw : codeW x ∈ gw) {bn : Bool} (hl : (mOwn mi, i, x, bn) ∈ mlinks) (hst : mStat x = false) (hn : As.length = mArgs x) (hs : shp k = some (.inr (mOwn x, ts))) (hr8 : r.length ≤ 8) (hCM : CM l D cI cZ a d x (.inr k :: As) M Q)
    (hk : ∀ (z : Int32) (M' : Mem), Q z M' → JW l D cI cZ a X0 p e R s m args below meth c A cells slots Qs (mMax mi) (pc + 3) L (pushR (mRet x) z r) M') : JW l D cI cZ a X0 p e R s m args below meth c A cells slots Qs (mMax mi) pc L (As.reverse ++ .inr k :: r) M := by
  intro H locs ls hP hD hS hX hls
  obtain ⟨hx, hb, hml, hown, hts, hnw, hK, hA, hscr, hR1, hR2, hcel, hslo⟩ := id hc
  obtain ⟨hh, hw⟩ := mw_get hx134 hmath hlaw
  simp only [mwOK, Bool.and_eq_true, decide_eq_true_eq] at hw
  obtain ⟨-, w2, w3, w4, w5, w6, w7, w8, w9⟩ := hw
  rw [hst] at w9
  simp only [Bool.and_eq_true] at w9
  have hmax : mMax x ≤ 20 := Nat.le_of_ble_eq_true w8
  have hfree := free_A D cI cZ a hc hD hS
  obtain ⟨q2, hq2, hlen, hty⟩ := sh_get hs
  have hg := wd_get cI cZ a (M := M) hs
  have hq1 : q2.1 = (mName x).cls := by
    have h0 : ∀ (ci : Nat) (q : vw_C), nth cls ci = some q → q.1 = cName ci := by
      intro ci q h
      rw [nth_eq] at h
      have hl : ci < 10 := (List.getElem?_eq_some_iff.mp h).1
      match ci, hl, h with
      | 0, _, h => cases h; rfl
      | 1, _, h => cases h; rfl
      | 2, _, h => cases h; rfl
      | 3, _, h => cases h; rfl
      | 4, _, h => cases h; rfl
      | 5, _, h => cases h; rfl
      | 6, _, h => cases h; rfl
      | 7, _, h => cases h; rfl
      | 8, _, h => cases h; rfl
      | 9, _, h => cases h; rfl
    rw [h0 _ _ hq2, w3]
  have hpre : PreV s H (mName x).cls (a k) (va_Pc ((.inr k :: As : List V).map (vv a)) (Bp D cI cZ a M H.size)) (As.map (vv a)) := ⟨Bp_blind D cI cZ a, by
    have hrv := va_recv hK hP (ci := mOwn x) (q0 := k) (by rw [← nth_eq]; exact hq2) hg
    rw [hq1] at hrv
    exact hrv, fun U hU hW => ⟨rfl, by rw [hU], by rw [hU]; exact hP, va_K.moved hW.alike hK, hD.weaken (fun _ _ _ _ => trivial), nws_warm hW hnw⟩⟩
  have hstack : (F0 m pc ls ((As.reverse ++ .inr k :: r).map (vv a))).stack = (As.map (vv a)).reverse ++ .ref (a k) :: r.map (vv a) := by
    show (As.reverse ++ .inr k :: r).map (vv a) = _
    rw [List.map_append, List.map_reverse]
    rfl
  have hsum : 2 * (F0 m pc ls ((As.reverse ++ .inr k :: r).map (vv a))).monitorRoom + ((r.map (vv a)).map fun v => v.category).sum ≤ 8 := lv_room (by rw [vv_sum]; exact hr8)
  have hini := hts _ (gw_at w7)
  have hRx : (rmd d).frames + 1 ≤ R.frames ∧ 8 + (mMax x + 11) + (rmd d).locals ≤ R.locals := ⟨hR.1, by omega⟩
  have hlk : Cond.methodLink (cName (mOwn mi)) i (mName x) ∈ gw := by
    rcases lk_get hl with ⟨-, hlk⟩ | ⟨-, -, h⟩
    · exact hlk
    · rw [hst] at h; cases h
  have hrun : va_Run p l e R s m args below meth c H locs cells slots 0 0 (F0 m pc ls ((As.reverse ++ .inr k :: r).map (vv a))) (r.map (vv a)) (Qg D cI cZ a Q (M 1000) (mRet x) (va_A (wd cI cZ a M) H.size) (Value.ref (a k) :: As.map (vv a)).toArray) (va_A (wd cI cZ a M) H.size) :=
    va_runV (n := mArgs x) ⟨hx, hb, hml, hown, hts⟩ (hCM H.size) ⟨callB_of (mArgs x) hts (gw_good hcw) rfl rfl rfl hini (hts _ hlk) ⟨w4, w5, w6⟩ hRx, hts _ (gw_at w9.1), hts _ (gw_at w9.2)⟩ hpre rfl (by simp [hn]) hls.1 hstack hsum hd ⟨hcel, hslo⟩
  refine va_callg l D cI cZ a hrun hS (fun q _ h => hfree q h) hfree (fun z M' H1 locs1 hQ hM hP1 hD1 hS1 => ?_)
  rw [retv_push]
  exact hk z M' hQ H1 locs1 ls hP1 (hD1.weaken (fun _ q _ h => hfree q.1 h)) hS1 (hM.trans hX) hls
end MM
