/-! Bodies: J. A method's contract out of its body. -/
theorem fetch_ok {mi pc : Nat} {E : Ent} (hm : mi < 134) (h : fetch (mCode mi) pc = some E) : decode (mBytes mi) pc = .ok (E.1, E.2.1) ∧ sideOK (mMax mi) (mOwn mi) pc E = true := by
  have hlt : pc < 16 * (mCode mi).length := by
    unfold fetch at h
    cases hr : nth (mCode mi) (pc / 16) with
    | none => rw [hr] at h; cases h
    | some r =>
      rw [nth_eq] at hr
      have := (List.getElem?_eq_some_iff.mp hr).1
      omega
  have h1 := List.all_eq_true.mp (ok_all mi hm) pc (List.mem_range.mpr hlt)
  unfold entOK at h1
  rw [h] at h1
  simp only [Bool.and_eq_true, decide_eq_true_eq] at h1
  exact h1
section MM
variable (l : Launch) (D : va_G) (cI cZ : ClassId) (a : Nat → Nat)
variable {p : Program} {e : Env} {R : Room} {s : State} {m : MethodId} {args : Array Value} {below : List Frame} {meth : Method} {c : Code} {A : Nat → Prop} {cells slots : Nat} {Qs : State → Prop}
variable {mi SL : Nat} {X0 : Nat → Int32}
theorem steps_sound (d : Nat) (hmi : mi < 134) (hc : Cx D cI cZ a mi SL X0 p R s m args c A cells slots) (CJ : Nat → List V → Mem → (Int32 → Mem → Prop) → Prop) (RQ : Int32 → Mem → Prop) (K : Nat → Lc → List V → Mem → Prop)
    (hCJ : ∀ x vs M Q, CJ x vs M Q → CM l D cI cZ a d x vs M Q ∧ ((rmd d).frames + 1 ≤ R.frames ∧ 39 + (rmd d).locals ≤ R.locals))
    (hK : ∀ pc L st M, K pc L st M → JW l D cI cZ a X0 p e R s m args below meth c A cells slots Qs (mMax mi) pc L st M)
    (hI : ∀ pc L z M, decode (mBytes mi) pc = .ok (.ireturn, 1) → (mRet mi = some .int ∨ mRet mi = some .boolean ∧ (z = 0 ∨ z = 1)) → RQ z M → JW l D cI cZ a X0 p e R s m args below meth c A cells slots Qs (mMax mi) pc L [.inl z] M)
    (hV : ∀ pc L M, decode (mBytes mi) pc = .ok (.return_, 1) → mRet mi = none → RQ 0 M → JW l D cI cZ a X0 p e R s m args below meth c A cells slots Qs (mMax mi) pc L [] M) (cuts : List Nat) :
    ∀ (n pc : Nat) (L : Lc) (st : List V) (M : Mem), stepsJ SL CJ RQ K (mCode mi) (mRet mi) cuts n pc L st M → JW l D cI cZ a X0 p e R s m args below meth c A cells slots Qs (mMax mi) pc L st M := by
  intro n
  induction n with
  | zero => exact fun pc L st M h => hK pc L st M h
  | succ n ih =>
    intro pc L st M h
    unfold stepsJ at h
    cases hf : fetch (mCode mi) pc with
    | none => rw [hf] at h; exact h.elim
    | some E =>
      rw [hf] at h
      obtain ⟨h1, h2⟩ := fetch_ok hmi hf
      refine step_sound l D cI cZ a d hc CJ RQ _ hCJ (fun pc' L' st' M' q => ?_) hI hV h1 h2 h
      split at q
      · exact hK _ _ _ _ q
      · exact ih _ _ _ _ q
/-- calls at a depth -/
def CP (d : Nat) (mi : Nat) (vs : List V) (M : Mem) (Q : Int32 → Mem → Prop) : Prop := match d with
  | 0 => False
  | d + 1 => CM l D cI cZ a d mi vs M Q
/-- the rest of a method's body: wherever it stands, it comes to an end with Q -/
def J (d mi pc : Nat) (L : Lc) (st : List V) (M : Mem) (Q : Int32 → Mem → Prop) : Prop :=
  ∀ (p : Program) (e : Env) (s : State) (m : MethodId) (args : Array Value) (below : List Frame) (meth : Method) (c : Code) (A : Nat → Prop) (X0 : Nat → Int32),
    Cx D cI cZ a mi 0 X0 p (rmd d) s m args c A 0 0 → meth.sig.returnType = mRet mi → meth.locks = false → JW l D cI cZ a X0 p e (rmd d) s m args below meth c A 0 0 (MQ below (Qg D cI cZ a Q X0 (mRet mi) A) args s 0 0 A) (mMax mi) pc L st M
theorem J_steps {d mi : Nat} (n : Nat) (cuts : List Nat) {pc : Nat} {L : Lc} {st : List V} {M : Mem} {Q : Int32 → Mem → Prop} (hmi : mi < 134)
    (h : stepsJ 0 (CP l D cI cZ a d) Q (fun pc L st M => J l D cI cZ a d mi pc L st M Q) (mCode mi) (mRet mi) cuts n pc L st M) : J l D cI cZ a d mi pc L st M Q := by
  intro p e s m args below meth c A X0 hc hr hlocks
  obtain ⟨hx, hb, hml, hown, hts, hnw, hKK, hA, hscr, hR1, hR2, hcel, hslo⟩ := id hc
  refine steps_sound l D cI cZ a (d - 1) hmi hc (CP l D cI cZ a d) Q _ ?_ (fun pc L st M q => q p e s m args below meth c A X0 hc hr hlocks) ?_ ?_ cuts n pc L st M h
  · intro x vs M Q' q
    cases d with
    | zero => exact q.elim
    | succ d => exact ⟨q, by simp only [rmd, Nat.add_sub_cancel]; omega⟩
  · intro pc L z M hd hz hq H locs ls hP hD hS hX hl
    rcases hz with hz | ⟨hz, hz2⟩
    · exact W.iret (Qc := Qg D cI cZ a Q X0 (mRet mi) A) hx hb (hr.trans hz) (fun t ht hW => ⟨⟨z, M, by rw [hz]; rfl, hq, hX, by rw [ht]; exact hP, hD⟩, hS.F ht⟩) hS.2.2 hd hlocks
    · exact W.zret (Qc := Qg D cI cZ a Q X0 (mRet mi) A) hx hb (hr.trans hz) (by rcases hz2 with rfl | rfl <;> decide) (fun t ht hW => ⟨⟨z, M, by rw [hz]; rfl, hq, hX, by rw [ht]; exact hP, hD⟩, hS.F ht⟩) hS.2.2 hd hlocks
  · intro pc L M hd hz hq H locs ls hP hD hS hX hl
    exact W.vret (Qc := Qg D cI cZ a Q X0 (mRet mi) A) hx hb (hr.trans hz) (fun t ht hW => ⟨⟨0, M, by rw [hz]; rfl, hq, hX, by rw [ht]; exact hP, hD⟩, hS.F ht⟩) hS.2.2 hd hlocks
def entL (vs : List V) (n : Nat) : Lc := vs.map some ++ List.replicate (n - vs.length) none
theorem lg_sl_len (a : Nat → Nat) : ∀ vs : List V, (lg_sl (vs.map (vv a))).length = vs.length
  | [] => rfl
  | v :: t => by
    have h := lg_sl_len a t
    have e : lg_sl ((v :: t).map (vv a)) = (if (vv a v).category = 2 then [Slot.val (vv a v), Slot.second] else [Slot.val (vv a v)]) ++ lg_sl (t.map (vv a)) := rfl
    rw [e, List.length_append, h, vv_cat, if_neg (by decide)]
    simp
    omega
theorem lv_args_mem (a : Nat → Nat) : ∀ (vs : List V) (i j : Nat) (v : V), nthO (vs.map some) j = some v → (i + j, vv a v) ∈ lv_args i (vs.map (vv a))
  | [], i, j, v, h => by simp [nthO] at h
  | u :: t, i, 0, v, h => by
    simp only [List.map_cons, nthO, Option.some.injEq] at h
    subst h
    cases u <;> simp [vv, lv_args]
  | u :: t, i, j + 1, v, h => by
    have h2 := lv_args_mem a t (i + 1) j v h
    rw [show i + (j + 1) = i + 1 + j by omega]
    cases u <;> simp only [List.map_cons, vv, lv_args, Value.category, List.mem_cons] <;> exact Or.inr h2
theorem nthO_app : ∀ (vs : List V) (n j : Nat) (v : V), nthO (vs.map some ++ List.replicate n none) j = some v → nthO (vs.map some) j = some v
  | [], n, j, v, h => by
    exfalso
    simp only [List.map_nil, List.nil_append] at h
    induction n generalizing j with
    | zero => simp [nthO] at h
    | succ n ih =>
      cases j with
      | zero => simp [List.replicate, nthO] at h
      | succ j => exact ih j h
  | u :: t, n, 0, v, h => h
  | u :: t, n, j + 1, v, h => nthO_app t n j v h
/-- a contract out of the body -/
theorem CM_of {d mi : Nat} {vs : List V} {M : Mem} {Q : Int32 → Mem → Prop} (hmi : mi < 134) (hm : isMath mi = false) (hl : isLaw mi = false) (hn : vs.length ≤ mMax mi) (h : J l D cI cZ a d mi 0 (entL vs (mMax mi)) [] M Q) : CM l D cI cZ a d mi vs M Q := by
  intro sz
  obtain ⟨hh, hw⟩ := mw_get hmi hm hl
  simp only [mwOK, Bool.and_eq_true, decide_eq_true_eq] at hw
  obtain ⟨-, w2, w3, w4, w5, w6, w7, w8, w9⟩ := hw
  refine Met.ofW (cc := mBytes mi) (maxL := mMax mi) (ret := mRet mi) w2 rfl ?_
  intro p e s m args below meth c s₁ B hml hv
  obtain ⟨rfl, hsz, hP, hK, hD0, hnw⟩ := hv
  have hts0 := atoms_spec (ws := codeW mi :: gw) B.pre
  have hts : ∀ w ∈ gw, w.before (vs.map (vv a)).toArray s = true := fun w hw => hts0 w (List.mem_cons_of_mem _ hw)
  have hown : s.vm.findClass (mName mi).cls = some m.cls := findClass_of_methodNamed B.named
  rw [w3] at hown
  subst hsz
  have hD := hD0.self (sz := s.heap.size)
  have hlv := lv_entry (vs.map (vv a)) (n := mMax mi) (by rw [lg_sl_len]; exact hn)
  rw [lg_entry_eq]
  refine h p e s m _ below meth c (va_A (wd cI cZ a M) s.heap.size) (M 1000) ⟨B.exec, B.bytes, hml, hown, hts, hnw, hK, fun q h => Or.inr h, Or.inl rfl, by simp [rmd], by simp [rmd]; omega, Nat.le_refl _, Nat.le_refl _⟩ B.returns B.notSynchronized s.heap [] _ hP hD va_S.rf rfl ?_
  refine ⟨hlv.1, hlv.2.1, fun q hq => ?_⟩
  obtain ⟨j, v, hv, e⟩ := (lvl_mem a _ 0 q).mp hq
  rw [e]
  exact hlv.2.2 _ (lv_args_mem a vs 0 j v (nthO_app vs _ j v hv))
end MM
