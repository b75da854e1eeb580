/-! Contracts and the step's soundness. -/
theorem cs_all : ∀ r ∈ cls, ∃ h, csOK h r = true := by
  intro r hr
  simp only [cls, List.mem_cons, List.not_mem_nil, or_false] at hr
  rcases hr with rfl | rfl | rfl | rfl | rfl | rfl | rfl | rfl | rfl | rfl
  · exact ⟨_, cs_ok0⟩
  · exact ⟨_, cs_ok1⟩
  · exact ⟨_, cs_ok2⟩
  · exact ⟨_, cs_ok3⟩
  · exact ⟨_, cs_ok4⟩
  · exact ⟨_, cs_ok5⟩
  · exact ⟨_, cs_ok6⟩
  · exact ⟨_, cs_ok7⟩
  · exact ⟨_, cs_ok8⟩
  · exact ⟨_, cs_ok9⟩
theorem nth_mem {α : Type} {l : List α} {k : Nat} {x : α} (h : nth l k = some x) : x ∈ l := by
  rw [nth_eq] at h
  exact List.mem_of_getElem? h
theorem cs_in {r : vw_C} (h : r ∈ cls) : ∀ w ∈ u_ws r.1 r.2.1 r.2.2, w ∈ gw := by
  obtain ⟨hh, h1⟩ := cs_all r h
  simp only [csOK, Bool.and_eq_true] at h1
  intro w hw
  obtain ⟨i, hi⟩ := zipAll_mem h1.1 w hw
  exact gw_at hi
def fty (r : vw_C) (k : Nat) : FieldType := (parseFieldDescriptor (r.2.1 k).2.2.1).getD .int
theorem cs_ty {r : vw_C} (h : r ∈ cls) : ∀ k, k < r.2.2 → parseFieldDescriptor (r.2.1 k).2.2.1 = some (fty r k) := by
  obtain ⟨hh, h1⟩ := cs_all r h
  simp only [csOK, Bool.and_eq_true] at h1
  intro k hk
  have h2 := List.all_eq_true.mp h1.2.1 k (List.mem_range.mpr hk)
  unfold fty
  cases hp : parseFieldDescriptor (r.2.1 k).2.2.1 with
  | none => rw [hp] at h2; cases h2
  | some t => rfl
theorem cs_nm {r : vw_C} (h : r ∈ cls) : ∀ a, a < r.2.2 → ∀ b, b < r.2.2 → a ≠ b → (r.2.1 a).2.1 ≠ (r.2.1 b).2.1 := by
  obtain ⟨hh, h1⟩ := cs_all r h
  simp only [csOK, Bool.and_eq_true] at h1
  intro x hx y hy hne
  have h2 := List.all_eq_true.mp (List.all_eq_true.mp h1.2.2 x (List.mem_range.mpr hx)) y (List.mem_range.mpr hy)
  simp only [Bool.or_eq_true, decide_eq_true_eq] at h2
  rcases h2 with h2 | h2
  · exact absurd h2 hne
  · exact h2
theorem fl_get {o i x y : Nat} (h : (o, i, x, y) ∈ flinks) : ∃ r, nth cls x = some r ∧ y < r.2.2 ∧ Cond.fieldLink (cName o) i (r.2.1 y).1 (r.2.1 y).2.1 (r.2.1 y).2.2.1 ∈ gw := by
  obtain ⟨k, h1⟩ := zipAll_mem fl_ok _ h
  unfold flOK at h1
  dsimp only at h1
  cases hr : nth cls x with
  | none => rw [hr] at h1; cases h1
  | some r =>
    rw [hr] at h1
    simp only [Bool.and_eq_true] at h1
    exact ⟨r, rfl, Nat.le_of_ble_eq_true h1.2, gw_at h1.1⟩
theorem sh_get {k : Nat} {ci : Nat} {ts : List Nat} (h : shp k = some (.inr (ci, ts))) : ∃ r, nth cls ci = some r ∧ ts.length = r.2.2 ∧ ∀ j t, nth ts j = some t → tyOK (r.2.1 j) t = true := by
  have h1 := List.all_eq_true.mp sh_ok _ (nth_mem h)
  unfold shOK at h1
  dsimp only at h1
  cases hr : nth cls ci with
  | none => rw [hr] at h1; cases h1
  | some r =>
    rw [hr] at h1
    simp only [Bool.and_eq_true] at h1
    refine ⟨r, rfl, Nat.eq_of_beq_eq_true h1.1, fun j t ht => ?_⟩
    have hj : j < ts.length := by
      rw [nth_eq] at ht
      exact (List.getElem?_eq_some_iff.mp ht).1
    have h2 := List.all_eq_true.mp h1.2 j (List.mem_range.mpr hj)
    rw [ht] at h2
    exact h2
theorem nws_form : ∀ w ∈ nws, ∃ p i x h, w = .methodLinkNest p i x h := by
  intro w hw
  simp only [nws, List.mem_cons, List.not_mem_nil, or_false] at hw
  rcases hw with rfl | rfl | rfl | rfl | rfl | rfl | rfl <;> exact ⟨_, _, _, _, rfl⟩
theorem nws_warm {s U : State} (hW : s.WarmedH U.vm) (h : ∀ w ∈ nws, va_Nw w s) : ∀ w ∈ nws, va_Nw w U := by
  intro w hw
  obtain ⟨p, i, x, q, rfl⟩ := nws_form w hw
  exact va_Nw.warmM hW (h _ hw)
theorem nws_same {s U : State} (e : s.vm = U.vm) (h : ∀ w ∈ nws, va_Nw w s) : ∀ w ∈ nws, va_Nw w U := by
  intro w hw
  obtain ⟨p, i, x, q, rfl⟩ := nws_form w hw
  exact va_Nw.same rfl e (h _ hw)
theorem gw_good {mi : Nat} (h : codeW mi ∈ gw) : GoodIn gw (codeW mi :: gw) := by
  intro w hw
  have h1 : w ∈ gw := by
    rcases List.mem_cons.mp hw with rfl | h2
    · exact h
    · exact h2
  exact ⟨h1, good_of_word (List.mem_filter.mp h1).2⟩
def rmd (d : Nat) : Room := { frames := d + 1, cells := 0, slots := 0, locals := 40 * (d + 1) }
section MM
variable (l : Launch) (D : va_G) (cI cZ : ClassId) (a : Nat → Nat)
abbrev tysD : List (ClassId × FieldType) := [(cI, .int), (cZ, .boolean)]
def Bp (M : Mem) (sz : Nat) (U : State) : Prop := U.heap.size = sz ∧ va_P D cls (wd cI cZ a M) U.heap ∧ va_K D cls (tysD cI cZ) U ∧ va_D (fun _ => True) (wd cI cZ a M) ∧ ∀ w ∈ nws, va_Nw w U
def retv (t : Option FieldType) (r : Int32) : Option Value := match t with
  | none => none
  | some _ => some (.int r)
def Qg (Q : Int32 → Mem → Prop) (X0 : Nat → Int32) (t : Option FieldType) (A : Nat → Prop) : Array Value → State → Outcome → State → Prop := fun _ st oc u =>
  (∃ (r : Int32) (M : Mem), oc = .returned (retv t r) ∧ Q r M ∧ M 1000 = X0 ∧ va_P D cls (wd cI cZ a M) u.heap ∧ va_D A (wd cI cZ a M)) ∧ va_F A st u
/-- a method's contract, at a depth of calls -/
def CM (d mi : Nat) (vs : List V) (M : Mem) (Q : Int32 → Mem → Prop) : Prop :=
  ∀ sz : Nat, Met l (mName mi) (codeW mi :: gw) (rmd d) (va_Pc (vs.map (vv a)) (Bp D cI cZ a M sz)) (Qg D cI cZ a Q (M 1000) (mRet mi) (va_A (wd cI cZ a M) sz)) 0 0 (va_A (wd cI cZ a M) sz)
theorem Bp_blind {M : Mem} {sz : Nat} {vs : List Value} : FrameBlind (va_Pc vs (Bp D cI cZ a M sz)) := by
  intro arr U g mk q
  obtain ⟨q0, q1, q2, q3, q4, q5⟩ := q
  exact ⟨q0, q1, q2, va_K.moved (u := U) (U := U.calling g mk arr) (Vm.Alike.refl U.vm) q3, q4, nws_same (s := U) (U := U.calling g mk arr) rfl q5⟩
variable {p : Program} {e : Env} {R : Room} {s : State} {m : MethodId} {args : Array Value} {below : List Frame} {meth : Method} {c : Code} {A : Nat → Prop} {cells slots : Nat} {Qs : State → Prop}
/-- behind a call -/
theorem va_callg {Q : Int32 → Mem → Prop} {X0 : Nat → Int32} {t0 : Option FieldType} {A1 : Nat → Prop} {H H0 : Heap} {locs : List Loc} {pc : Nat} {ls : Array Slot} {rest st0 : List Value} {arr : Array Value} {free : Addr → Prop} (hr : va_Run p l e R s m args below meth c H locs cells slots 0 0 (F0 m pc ls st0) rest (Qg D cI cZ a Q X0 t0 A1 arr) free) (hS : va_S A H0 H locs) (hA : ∀ q, q < H.size → A1 q → A q) (hf : ∀ q, free q → A q)
    (kk : ∀ (r : Int32) (M : Mem) (H1 : Heap) (locs1 : List Loc), Q r M → M 1000 = X0 → va_P D cls (wd cI cZ a M) H1 → va_D A1 (wd cI cZ a M) → va_S A H0 H1 locs1 → W p l e R s m args below meth c H1 locs1 cells slots Qs (F0 m (pc + 3) ls ((retv t0 r).toList ++ rest))) : W p l e R s m args below meth c H locs cells slots Qs (F0 m pc ls st0) := by
  intro T hT X
  obtain ⟨v, st₀, t, T', L, h0, X', hL, e1, e2, ⟨⟨r, M, hv, hp, hM, hP, hD⟩, hz, hk⟩, st⟩ := hr T hT X
  have hv' : v = retv t0 r := by
    injection hv
  subst hv'
  rw [h0] at hz hk
  obtain ⟨t2, a1, b1⟩ := kk r M T'.heap (locs ++ L) hp hM (by rw [e1]; exact hP) hD
    ⟨Nat.le_trans hS.1 (by rw [e1]; exact hz), fun q h1 h2 => by rw [e1, hk q (Nat.lt_of_lt_of_le h1 hS.1) (fun z => h2 (hA q (Nat.lt_of_lt_of_le h1 hS.1) z))]; exact hS.2.1 q h1 h2, fun q hq => by
      rcases List.mem_append.mp hq with h | h
      · exact hS.2.2 q h
      · exact hf _ (hL q h)⟩ T' rfl X'
  exact ⟨t2, st t2 a1, b1⟩
/-- what holds throughout a method's body -/
def Cx (mi : Nat) (SL : Nat) (X0 : Nat → Int32) (p : Program) (R : Room) (s : State) (m : MethodId) (args : Array Value) (c : Code) (A : Nat → Prop) (cells slots : Nat) : Prop :=
  p.tables.exec = Jvm.exec ∧ c.code = mBytes mi ∧ c.maxLocals = mMax mi ∧ s.vm.findClass (cName (mOwn mi)) = some m.cls ∧ (∀ w ∈ gw, w.before args s = true) ∧ (∀ w ∈ nws, va_Nw w s) ∧ va_K D cls (tysD cI cZ) s ∧ (∀ q, s.heap.size ≤ q → A q) ∧ (SL = 0 ∨ (va_X (a 1000) (SL - 1) X0 s s.heap ∧ a 1000 < s.heap.size ∧ ¬ A (a 1000))) ∧ 1 ≤ R.frames ∧ 21 ≤ R.locals ∧ cells ≤ R.cells ∧ slots ≤ R.slots
def JW (X0 : Nat → Int32) (p : Program) (e : Env) (R : Room) (s : State) (m : MethodId) (args : Array Value) (below : List Frame) (meth : Method) (c : Code) (A : Nat → Prop) (cells slots : Nat) (Qs : State → Prop) (nL pc : Nat) (L : Lc) (st : List V) (M : Mem) : Prop :=
  ∀ (H : Heap) (locs : List Loc) (ls : Array Slot), va_P D cls (wd cI cZ a M) H → va_D A (wd cI cZ a M) → va_S A s.heap H locs → M 1000 = X0 → lv_has ls nL (lvl a 0 L) → W p l e R s m args below meth c H locs cells slots Qs (F0 m pc ls (st.map (vv a)))
theorem sw_find {z : Int32} {k : Nat → Prop} {d : Nat} : ∀ {tb : List (Int32 × Nat)}, swJ z k d tb → (∃ (j t : Nat), tb[j]? = some (z, t) ∧ k t) ∨ ((∀ (j : Nat) (c : Int32) (t : Nat), tb[j]? = some (c, t) → c ≠ z) ∧ k d)
  | [], h => Or.inr ⟨fun j c t h => by simp at h, h⟩
  | (c, t) :: r, h => by
    by_cases e : z = c
    · subst e
      exact Or.inl ⟨0, t, rfl, h.1 rfl⟩
    · rcases sw_find (h.2 e) with ⟨j, t', h1, h2⟩ | ⟨h1, h2⟩
      · exact Or.inl ⟨j + 1, t', h1, h2⟩
      · refine Or.inr ⟨fun j c' t' hj => ?_, h2⟩
        cases j with
        | zero =>
          simp only [List.getElem?_cons_zero, Option.some.injEq, Prod.mk.injEq] at hj
          rw [← hj.1]
          exact fun q => e q.symm
        | succ j => exact h1 j c' t' hj
theorem swOK_get {pc : Nat} : ∀ {os : List Int} {tb : List (Int32 × Nat)} {lo : Int}, swOK pc lo os tb = true → os.length = tb.length ∧ ∀ (j : Nat) (c : Int32) (t : Nat), tb[j]? = some (c, t) → c.toInt = lo + (j : Int) ∧ ∃ o : Int, os[j]? = some o ∧ (pc : Int) + o = (t : Int)
  | [], [], lo, _ => ⟨rfl, fun j c t h => by simp at h⟩
  | o :: os, (c, t) :: r, lo, h => by
    simp only [swOK, Bool.and_eq_true, decide_eq_true_eq] at h
    obtain ⟨h1, h2, h3⟩ := h
    obtain ⟨g1, g2⟩ := swOK_get h3
    refine ⟨by simp [g1], fun j c' t' hj => ?_⟩
    cases j with
    | zero =>
      simp only [List.getElem?_cons_zero, Option.some.injEq, Prod.mk.injEq] at hj
      obtain ⟨rfl, rfl⟩ := hj
      exact ⟨by rw [h1]; simp, o, rfl, h2⟩
    | succ j =>
      obtain ⟨k1, o', k2, k3⟩ := g2 j c' t' hj
      exact ⟨by rw [k1]; push_cast; omega, o', k2, k3⟩
  | [], _ :: _, lo, h => by simp [swOK] at h
  | _ :: _, [], lo, h => by simp [swOK] at h
theorem lk_find {pc : Nat} {z : Int32} {k : Nat → Prop} {d : Nat} {df : Int} (hd : (pc : Int) + df = (d : Int)) : ∀ {ps : List (Int × Int)} {tb : List (Int32 × Nat)}, lkOK pc ps tb = true → swJ z k d tb → ∃ t : Nat, (pc : Int) + Op.lookupswitch.offset ps df z.toInt = (t : Int) ∧ k t
  | [], [], _, h => ⟨d, hd, h⟩
  | (x, o) :: ps, (c, t) :: r, hk, h => by
    simp only [lkOK, Bool.and_eq_true, decide_eq_true_eq] at hk
    obtain ⟨h1, h2, h3⟩ := hk
    by_cases e : z = c
    · subst e
      refine ⟨t, ?_, h.1 rfl⟩
      rw [Op.lookupswitch.offset_cons, if_pos h1.symm]
      exact h2
    · obtain ⟨t', g1, g2⟩ := lk_find hd h3 (h.2 e)
      refine ⟨t', ?_, g2⟩
      rw [Op.lookupswitch.offset_cons, if_neg (fun q => e (Int32.toInt_inj.mp (by rw [h1, q])))]
      exact g1
  | [], _ :: _, hk, h => by simp [lkOK] at hk
  | _ :: _, [], hk, h => by simp [lkOK] at hk
theorem mw_get {mi : Nat} (h : mi < 134) (hm : isMath mi = false) (hl : isLaw mi = false) : ∃ h, mwOK h mi = true := by
  have key : isMath mi = true ∨ isLaw mi = true ∨ ∃ h, mwOK h mi = true := by
    by_cases h0 : mi < 20
    · exact mwAll_get mw_ok0 mi (by omega) h0
    by_cases h1 : mi < 40
    · exact mwAll_get mw_ok1 mi (by omega) h1
    by_cases h2 : mi < 60
    · exact mwAll_get mw_ok2 mi (by omega) h2
    by_cases h3 : mi < 80
    · exact mwAll_get mw_ok3 mi (by omega) h3
    by_cases h4 : mi < 100
    · exact mwAll_get mw_ok4 mi (by omega) h4
    by_cases h5 : mi < 120
    · exact mwAll_get mw_ok5 mi (by omega) h5
    exact mwAll_get mw_ok6 mi (by omega) h
  rcases key with h1 | h1 | h1
  · rw [hm] at h1; cases h1
  · rw [hl] at h1; cases h1
  · exact h1
theorem lk_get {o i x : Nat} {b : Bool} (h : (o, i, x, b) ∈ mlinks) : (b = false ∧ Cond.methodLink (cName o) i (mName x) ∈ gw) ∨ (b = true ∧ Cond.methodLinkNest (cName o) i (mName x) "PlacingDesk" ∈ nws ∧ mStat x = true) := by
  obtain ⟨k, h1⟩ := zipAll_mem lk_ok _ h
  unfold lkW at h1
  dsimp only at h1
  cases b with
  | false => exact Or.inl ⟨rfl, gw_at h1⟩
  | true =>
    simp only [Bool.and_eq_true, decide_eq_true_eq] at h1
    exact Or.inr ⟨rfl, nth_mem h1.1, h1.2⟩
end MM
