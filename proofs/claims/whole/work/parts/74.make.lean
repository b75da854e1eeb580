/-! Constructors: rows over a world that grows. -/
def nwi : List Jvm.Cond := [.methodLinkNest "PlacingDesk" 25 ⟨"PlacingDesk$Gear", "<init>", "()V"⟩ "PlacingDesk", .methodLinkNest "PlacingDesk" 32 ⟨"PlacingDesk$Row", "<init>", "()V"⟩ "PlacingDesk", .methodLinkNest "PlacingDesk$Reckoner" 11 ⟨"PlacingDesk$Head", "<init>", "()V"⟩ "PlacingDesk", .methodLinkNest "PlacingDesk$Trip" 11 ⟨"PlacingDesk$Head", "<init>", "()V"⟩ "PlacingDesk"]
theorem nwi_form : ∀ w ∈ nwi, ∃ p i x h, w = .methodLinkNest p i x h := by
  intro w hw
  simp only [nwi, List.mem_cons, List.not_mem_nil, or_false] at hw
  rcases hw with rfl | rfl | rfl | rfl <;> exact ⟨_, _, _, _, rfl⟩
theorem nwi_warm {s U : State} (hW : s.WarmedH U.vm) (h : ∀ w ∈ nwi, va_Nw w s) : ∀ w ∈ nwi, va_Nw w U := by
  intro w hw
  obtain ⟨p, i, x, q, rfl⟩ := nwi_form w hw
  exact va_Nw.warmM hW (h _ hw)
theorem nwi_same {s U : State} (e : s.vm = U.vm) (h : ∀ w ∈ nwi, va_Nw w s) : ∀ w ∈ nwi, va_Nw w U := by
  intro w hw
  obtain ⟨p, i, x, q, rfl⟩ := nwi_form w hw
  exact va_Nw.same rfl e (h _ hw)
theorem gw_goodC {w : Jvm.Cond} (h : w ∈ gw) : GoodIn gw (w :: gw) := by
  intro v hv
  have h1 : v ∈ gw := by
    rcases List.mem_cons.mp hv with rfl | h2
    · exact h
    · exact h2
  exact ⟨h1, good_of_word (List.mem_filter.mp h1).2⟩
def rmi (d mc ms : Nat) : Room := { frames := d + 1, cells := mc, slots := ms, locals := 40 * (d + 1) }
def pushOK (ins : Instr) (len : Nat) (v : Int32) : Bool := match ins with
  | .iconst n => Nat.beq len 1 && decide (Int32.ofInt n = v)
  | .bipush n => Nat.beq len 2 && decide ((Int8.ofInt n).toInt32 = v)
  | .sipush n => Nat.beq len 3 && decide ((Int16.ofInt n).toInt32 = v)
  | _ => false
def loadOK (ins : Instr) (len x : Nat) : Bool := match ins with
  | .aload_n k => Nat.beq len 1 && Nat.beq k.val x
  | .aload i => Nat.beq len 2 && Nat.beq i x
  | _ => false
def isRefT (t : FieldType) : Bool := match t with
  | .object _ => true
  | .array _ => true
  | _ => false
theorem narrow_ref (t : FieldType) (a : Nat) : narrow t (.ref a) = .ref a := by cases t <;> rfl
theorem fits_ref {t : FieldType} (h : isRefT t = true) (a : Nat) : fits t (.ref a) = true := by
  cases t <;> first | rfl | (simp [isRefT] at h)
/-- field k of class ci, through the constant idx of the class own, put by own's constructor -/
def putR (o idx ci k : Nat) : Bool := inF (o, idx, ci, k) flinks && (match nth cls ci with
  | some r => Nat.ble (k + 1) r.2.2 && (isRefT (fty r k) && (!(r.2.1 k).2.2.2 || decide ((r.2.1 k).1 = cName o)))
  | none => false)
def putV (o idx ci k : Nat) (v : Int32) : Bool := inF (o, idx, ci, k) flinks && (match nth cls ci with
  | some r => Nat.ble (k + 1) r.2.2 && ((decide (fty r k = .int) || (decide (fty r k = .boolean) && (decide (v = 0) || decide (v = 1)))) && (!(r.2.1 k).2.2.2 || decide ((r.2.1 k).1 = cName o)))
  | none => false)
section KWs
variable (l : Launch) (D : va_G) (cI cZ : ClassId)
def Bq (ws : va_W) (sz : Nat) (U : State) : Prop := U.heap.size = sz ∧ va_P D cls ws U.heap ∧ va_K D cls (tysD cI cZ) U ∧ va_D (fun _ => True) ws ∧ ∀ w ∈ nwi, va_Nw w U
def QI (Res : va_W → Prop) (A : Nat → Prop) : Array Value → State → Outcome → State → Prop := fun _ st oc u => (oc = .returned none ∧ ∃ ws, Res ws ∧ va_P D cls ws u.heap ∧ va_D A ws) ∧ va_F A st u
/-- a constructor's contract -/
def IC (d mc ms : Nat) (y : MethodName) (cc : ByteArray) (mL : Nat) (As : List Value) (ws : va_W) (Res : va_W → Prop) : Prop := ∀ sz : Nat, Met l y (.code y cc mL none :: gw) (rmi d mc ms) (va_Pc As (Bq D cI cZ ws sz)) (QI D Res (va_A ws sz)) mc ms (va_A ws sz)
theorem Bq_blind {ws : va_W} {sz : Nat} {vs : List Value} : FrameBlind (va_Pc vs (Bq D cI cZ ws sz)) := by
  intro arr U g mk q
  obtain ⟨q0, q1, q2, q3, q4, q5⟩ := q
  exact ⟨q0, q1, q2, va_K.moved (u := U) (U := U.calling g mk arr) (Vm.Alike.refl U.vm) q3, q4, nwi_same (s := U) (U := U.calling g mk arr) rfl q5⟩
variable {p : Program} {e : Env} {R : Room} {s : State} {m : MethodId} {args : Array Value} {below : List Frame} {meth : Method} {c : Code} {A : Nat → Prop} {Qs : State → Prop} {cells slots pc : Nat} {ls : Array Slot} {st : List Value} {o : Nat} {cc : ByteArray} {nL : Nat} {ws : va_W}
/-- what holds throughout a body -/
def Kx (o : Nat) (cc : ByteArray) (nL : Nat) (p : Program) (s : State) (m : MethodId) (args : Array Value) (c : Code) (A : Nat → Prop) : Prop :=
  p.tables.exec = Jvm.exec ∧ c.code = cc ∧ c.maxLocals = nL ∧ s.vm.findClass (cName o) = some m.cls ∧ (∀ w ∈ gw, w.before args s = true) ∧ (∀ w ∈ nwi, va_Nw w s) ∧ va_K D cls (tysD cI cZ) s ∧ (∀ q, s.heap.size ≤ q → A q)
/-- a place in a body, with the world ws -/
def KW (p : Program) (e : Env) (R : Room) (s : State) (m : MethodId) (args : Array Value) (below : List Frame) (meth : Method) (c : Code) (A : Nat → Prop) (Qs : State → Prop) (ws : va_W) (cells slots pc : Nat) (ls : Array Slot) (st : List Value) : Prop :=
  ∀ (H : Heap) (locs : List Loc), va_P D cls ws H → va_D A ws → va_S A s.heap H locs → W p l e R s m args below meth c H locs cells slots Qs (F0 m pc ls st)
variable (hc : Kx D cI cZ o cc nL p s m args c A)
theorem kw_push (ins : Instr) (len : Nat) (v : Int32) (hd : decode cc pc = .ok (ins, len)) (hv : pushOK ins len v = true) (hc : Kx D cI cZ o cc nL p s m args c A) (k : KW l D p e R s m args below meth c A Qs ws cells slots (pc + len) ls (.int v :: st)) : KW l D p e R s m args below meth c A Qs ws cells slots pc ls st := by
  intro H locs hP hD hS
  obtain ⟨hx, hb, -⟩ := hc
  cases ins <;> simp only [pushOK, Bool.and_eq_true, decide_eq_true_eq] at hv <;> (try exact absurd hv (by decide))
  case iconst n =>
    cases Nat.eq_of_beq_eq_true hv.1
    exact lv_iconst hx hb hd hv.2 (k H locs hP hD hS)
  case bipush n =>
    cases Nat.eq_of_beq_eq_true hv.1
    exact lv_bipush hx hb hd hv.2 (k H locs hP hD hS)
  case sipush n =>
    cases Nat.eq_of_beq_eq_true hv.1
    exact lv_sipush hx hb hd hv.2 (k H locs hP hD hS)
theorem kw_load (ins : Instr) (len x : Nat) {q : Nat} (hd : decode cc pc = .ok (ins, len)) (hv : loadOK ins len x = true) (hl : ls[x]? = some (.val (.ref q))) (hc : Kx D cI cZ o cc nL p s m args c A) (k : KW l D p e R s m args below meth c A Qs ws cells slots (pc + len) ls (.ref q :: st)) : KW l D p e R s m args below meth c A Qs ws cells slots pc ls st := by
  intro H locs hP hD hS
  obtain ⟨hx, hb, -⟩ := hc
  cases ins <;> simp only [loadOK, Bool.and_eq_true] at hv <;> (try exact absurd hv (by decide))
  case aload i =>
    cases Nat.eq_of_beq_eq_true hv.1
    cases Nat.eq_of_beq_eq_true hv.2
    exact lv_aload hx hb hd hl (k H locs hP hD hS)
  case aload_n i =>
    cases Nat.eq_of_beq_eq_true hv.1
    exact lv_aload_n hx hb hd (Nat.eq_of_beq_eq_true hv.2) hl (k H locs hP hD hS)
theorem kw_dup {q : Nat} (hd : decode cc pc = .ok (.dup, 1)) (hc : Kx D cI cZ o cc nL p s m args c A) (k : KW l D p e R s m args below meth c A Qs ws cells slots (pc + 1) ls (.ref q :: .ref q :: st)) : KW l D p e R s m args below meth c A Qs ws cells slots pc ls (.ref q :: st) := by
  intro H locs hP hD hS
  obtain ⟨hx, hb, -⟩ := hc
  exact lv_dup hx hb hd rfl (k H locs hP hD hS)
theorem kw_obj {idx q : Nat} (hd : decode cc pc = .ok (.invokespecial idx, 3)) (h1 : Cond.methodLink (cName o) idx Lib.objectInit ∈ gw) (h2 : Cond.instanceMethod Lib.objectInit ∈ gw) (h3 : Cond.code Lib.objectInit ⟨#[0xb1]⟩ 1 none ∈ gw) (hl : ls.size = nL) (hR : 1 ≤ R.frames ∧ 20 ≤ R.locals) (hc : Kx D cI cZ o cc nL p s m args c A) (k : KW l D p e R s m args below meth c A Qs ws cells slots (pc + 3) ls []) : KW l D p e R s m args below meth c A Qs ws cells slots pc ls [.ref q] := by
  intro H locs hP hD hS
  obtain ⟨hx, hb, hml, hown, hts, -⟩ := hc
  refine W.objInit hx hb hown (hts _ h1) (hts _ h2) (hts _ h3) rfl (hl.trans hml.symm) (rest := []) rfl hd hR.1 ?_ (k H locs hP hD hS)
  have := lv_room (m := m) (pc := pc) (ls := ls) (rest := [.ref q]) (st := []) (Nat.zero_le 8)
  omega
theorem app_at {ws0 tl : va_W} {x : Nat × va_E} : (ws0 ++ x :: tl)[ws0.length]? = some x := by
  rw [List.getElem?_append_right (Nat.le_refl _), Nat.sub_self]
  rfl
theorem app_set {ws0 tl : va_W} {x y : Nat × va_E} : (ws0 ++ x :: tl).set ws0.length y = ws0 ++ y :: tl := by
  rw [List.set_append_right _ _ (Nat.le_refl _), Nat.sub_self]
  rfl
/-- putfield of a reference into the object itself -/
theorem kw_putR {ws0 tl : va_W} {h q idx ci k : Nat} {fs fs' : List Value} (hf : putR o idx ci k = true) (hlen : k < fs.length) (hfs : fs.set k (.ref q) = fs') (hd : decode cc pc = .ok (.putfield idx, 3)) (hn : meth.name = "<init>") (hc : Kx D cI cZ o cc nL p s m args c A) (kk : KW l D p e R s m args below meth c A Qs (ws0 ++ (h, .inr (ci, fs')) :: tl) cells slots (pc + 3) ls st) : KW l D p e R s m args below meth c A Qs (ws0 ++ (h, .inr (ci, fs)) :: tl) cells slots pc ls (.ref q :: .ref h :: st) := by
  intro H locs hP hD hS
  obtain ⟨hx, hb, hml, hown, hts, -, hK, -⟩ := hc
  simp only [putR, Bool.and_eq_true] at hf
  obtain ⟨hf1, hf2⟩ := hf
  obtain ⟨r, hr, hy, hlk⟩ := fl_get (inF_mem hf1)
  rw [hr] at hf2
  simp only [Bool.and_eq_true, Bool.or_eq_true, Bool.not_eq_true', decide_eq_true_eq] at hf2
  obtain ⟨-, hty, hfin⟩ := hf2
  have hr' : r ∈ cls := nth_mem hr
  have hcl : cls[ci]? = some r := by rw [← nth_eq]; exact hr
  subst hfs
  have go : ∀ (H1 : Heap) (locs1 : List Loc), va_P D cls ((ws0 ++ (h, Sum.inr (ci, fs)) :: tl).set ws0.length (h, .inr (ci, fs.set k (.ref q)))) H1 → va_D A ((ws0 ++ (h, Sum.inr (ci, fs)) :: tl).set ws0.length (h, .inr (ci, fs.set k (.ref q)))) → va_S A s.heap H1 locs1 → W p l e R s m args below meth c H1 locs1 cells slots Qs (F0 m (pc + 3) ls st) := fun H1 locs1 a b c' => by
    rw [app_set] at a b
    exact kk H1 locs1 a b c'
  by_cases hz : (r.2.1 k).2.2.2 = false
  · exact va_put hx hb hts (cs_in hr') (fty r) (cs_ty hr') (cs_nm hr') hown hK hP hD hS ws0.length app_at hcl k hy (hts _ hlk) (fun _ h => h) hz (cs_ty hr' k hy) (narrow_ref _ _) (fits_ref hty _) hlen hd go
  · have hz' : (r.2.1 k).2.2.2 = true := by simpa using hz
    have hdecl : (r.2.1 k).1 = cName o := by
      rcases hfin with z | z
      · exact absurd z hz
      · exact z
    exact va_putF hx hb hts (cs_in hr') (fty r) (cs_ty hr') (cs_nm hr') hown hK hP hD hS ws0.length app_at hcl k hy (hts _ hlk) (fun _ h => h) hz' hn hdecl (cs_ty hr' k hy) (narrow_ref _ _) (fits_ref hty _) hlen hd go
theorem kw_putV {ws0 tl : va_W} {h idx ci k : Nat} {v : Int32} {fs fs' : List Value} (hf : putV o idx ci k v = true) (hlen : k < fs.length) (hfs : fs.set k (.int v) = fs') (hd : decode cc pc = .ok (.putfield idx, 3)) (hn : meth.name = "<init>") (hc : Kx D cI cZ o cc nL p s m args c A) (kk : KW l D p e R s m args below meth c A Qs (ws0 ++ (h, .inr (ci, fs')) :: tl) cells slots (pc + 3) ls st) : KW l D p e R s m args below meth c A Qs (ws0 ++ (h, .inr (ci, fs)) :: tl) cells slots pc ls (.int v :: .ref h :: st) := by
  intro H locs hP hD hS
  obtain ⟨hx, hb, hml, hown, hts, -, hK, -⟩ := hc
  simp only [putV, Bool.and_eq_true] at hf
  obtain ⟨hf1, hf2⟩ := hf
  obtain ⟨r, hr, hy, hlk⟩ := fl_get (inF_mem hf1)
  rw [hr] at hf2
  simp only [Bool.and_eq_true, Bool.or_eq_true, Bool.not_eq_true', decide_eq_true_eq] at hf2
  obtain ⟨-, hty, hfin⟩ := hf2
  have hr' : r ∈ cls := nth_mem hr
  have hcl : cls[ci]? = some r := by rw [← nth_eq]; exact hr
  subst hfs
  have hnf : narrow (fty r k) (.int v) = .int v ∧ fits (fty r k) (.int v) = true := by
    rcases hty with z | ⟨z, y⟩
    · rw [z]; exact ⟨rfl, rfl⟩
    · rw [z]
      rcases y with rfl | rfl
      · exact ⟨rfl, rfl⟩
      · exact ⟨rfl, rfl⟩
  have go : ∀ (H1 : Heap) (locs1 : List Loc), va_P D cls ((ws0 ++ (h, Sum.inr (ci, fs)) :: tl).set ws0.length (h, .inr (ci, fs.set k (.int v)))) H1 → va_D A ((ws0 ++ (h, Sum.inr (ci, fs)) :: tl).set ws0.length (h, .inr (ci, fs.set k (.int v)))) → va_S A s.heap H1 locs1 → W p l e R s m args below meth c H1 locs1 cells slots Qs (F0 m (pc + 3) ls st) := fun H1 locs1 a b c' => by
    rw [app_set] at a b
    exact kk H1 locs1 a b c'
  by_cases hz : (r.2.1 k).2.2.2 = false
  · exact va_put hx hb hts (cs_in hr') (fty r) (cs_ty hr') (cs_nm hr') hown hK hP hD hS ws0.length app_at hcl k hy (hts _ hlk) (fun _ h => h) hz (cs_ty hr' k hy) hnf.1 hnf.2 hlen hd go
  · have hz' : (r.2.1 k).2.2.2 = true := by simpa using hz
    have hdecl : (r.2.1 k).1 = cName o := by
      rcases hfin with z | z
      · exact absurd z hz
      · exact z
    exact va_putF hx hb hts (cs_in hr') (fty r) (cs_ty hr') (cs_nm hr') hown hK hP hD hS ws0.length app_at hcl k hy (hts _ hlk) (fun _ h => h) hz' hn hdecl (cs_ty hr' k hy) hnf.1 hnf.2 hlen hd go
theorem kw_get {ws0 tl : va_W} {h idx ci k : Nat} {v : Value} {fs : List Value} (hf : inF (o, idx, ci, k) flinks = true) (hv : fs[k]? = some v) (hd : decode cc pc = .ok (.getfield idx, 3)) (hc : Kx D cI cZ o cc nL p s m args c A) (kk : KW l D p e R s m args below meth c A Qs (ws0 ++ (h, .inr (ci, fs)) :: tl) cells slots (pc + 3) ls (v :: st)) : KW l D p e R s m args below meth c A Qs (ws0 ++ (h, .inr (ci, fs)) :: tl) cells slots pc ls (.ref h :: st) := by
  intro H locs hP hD hS
  obtain ⟨hx, hb, hml, hown, hts, -, hK, -⟩ := hc
  obtain ⟨r, hr, hy, hlk⟩ := fl_get (inF_mem hf)
  exact va_get hx hb hts (cs_in (nth_mem hr)) hown hK hP ws0.length app_at (by rw [← nth_eq]; exact hr) k hy (hts _ hlk) (fun _ h => h) hv hd (kk H locs hP hD hS)
theorem kw_newI {v : Int32} (n : Nat) (hv : v = nI n) (hn : n < 2000) (hw : Cond.arrayClass .int ∈ gw) (hcel : cells + 1 ≤ R.cells ∧ slots + n ≤ R.slots) (hd : decode cc pc = .ok (.newarray .int, 2)) (hc : Kx D cI cZ o cc nL p s m args c A) (kk : ∀ q, KW l D p e R s m args below meth c A Qs (ws ++ [(q, .inl (cI, n, .inl (fun _ => 0)))]) (cells + 1) (slots + n) (pc + 2) ls (.ref q :: st)) : KW l D p e R s m args below meth c A Qs ws cells slots pc ls (.int v :: st) := by
  intro H locs hP hD hS
  obtain ⟨hx, hb, hml, hown, hts, -, hK, hA⟩ := hc
  subst hv
  refine va_newa (atype := .int) (ty := .int) (a0 := (n, .inl (fun _ => 0))) hx hb (hts _ hw) rfl hK hP hD hS hA (fun cA => rfl) (nI_pos (by omega)) (nI_clamp (by omega)) ?_ hcel.1 hcel.2 hd (fun q cA H1 hK1 hP1 hD1 hS1 => ?_)
  · show n * 4 ≤ _
    omega
  · have e1 : s.vm.findClass ("[" ++ FieldType.int.toString) = some cI := (hK.2 0 _ rfl).2
    have e2 : s.vm.findClass ("[" ++ FieldType.int.toString) = some cA := (hK1.2 2 _ rfl).2
    have : cA = cI := Option.some.inj (e2.symm.trans e1)
    subst this
    exact kk q H1 locs hP1 hD1 hS1
theorem kw_newZ {v : Int32} (n : Nat) (hv : v = nI n) (hn : n < 2000) (hw : Cond.arrayClass .boolean ∈ gw) (hcel : cells + 1 ≤ R.cells ∧ slots + n ≤ R.slots) (hd : decode cc pc = .ok (.newarray .boolean, 2)) (hc : Kx D cI cZ o cc nL p s m args c A) (kk : ∀ q, KW l D p e R s m args below meth c A Qs (ws ++ [(q, .inl (cZ, n, .inl (fun _ => 0)))]) (cells + 1) (slots + n) (pc + 2) ls (.ref q :: st)) : KW l D p e R s m args below meth c A Qs ws cells slots pc ls (.int v :: st) := by
  intro H locs hP hD hS
  obtain ⟨hx, hb, hml, hown, hts, -, hK, hA⟩ := hc
  subst hv
  refine va_newa (atype := .boolean) (ty := .boolean) (a0 := (n, .inl (fun _ => 0))) hx hb (hts _ hw) rfl hK hP hD hS hA (fun cA => rfl) (nI_pos (by omega)) (nI_clamp (by omega)) ?_ hcel.1 hcel.2 hd (fun q cA H1 hK1 hP1 hD1 hS1 => ?_)
  · show n * 1 ≤ _
    omega
  · have e1 : s.vm.findClass ("[" ++ FieldType.boolean.toString) = some cZ := (hK.2 1 _ rfl).2
    have e2 : s.vm.findClass ("[" ++ FieldType.boolean.toString) = some cA := (hK1.2 2 _ rfl).2
    have : cA = cZ := Option.some.inj (e2.symm.trans e1)
    subst this
    exact kk q H1 locs hP1 hD1 hS1
/-- a new object -/
theorem kw_new {idx : Nat} (ci : Nat) (r : vw_C) (fs : List Value) (hr : nth cls ci = some r) (h1 : Cond.classLink (cName o) idx r.1 ∈ gw) (h2 : Cond.instantiable r.1 r.2.2 ∈ gw) (h3 : Cond.initialized r.1 ∈ gw) (hfs : ∀ j, j < r.2.2 → defaultValue (fty r j) = vp_V fs j) (hcel : cells + 1 ≤ R.cells ∧ slots + r.2.2 ≤ R.slots) (hd : decode cc pc = .ok (.new idx, 3)) (hc : Kx D cI cZ o cc nL p s m args c A) (kk : ∀ q, KW l D p e R s m args below meth c A Qs (ws ++ [(q, .inr (ci, fs))]) (cells + 1) (slots + r.2.2) (pc + 3) ls (.ref q :: st)) : KW l D p e R s m args below meth c A Qs ws cells slots pc ls st := by
  intro H locs hP hD hS
  obtain ⟨hx, hb, hml, hown, hts, -, hK, hA⟩ := hc
  exact va_new (ci := ci) (fs := fs) (C := r.1) (T := r.2.1) (N := r.2.2) hx hb hts (cs_in (nth_mem hr)) (fty r) (cs_ty (nth_mem hr)) hown (hts _ h1) (hts _ h2) (hts _ h3) hK hP hD hS hA (by rw [← nth_eq]; exact hr) hfs hcel.1 hcel.2 hd (fun q H1 hP1 hD1 hS1 => kk q H1 locs hP1 hD1 hS1)
theorem kw_ret {Res : va_W → Prop} (hr : meth.sig.returnType = none) (hlocks : meth.locks = false) (hd : decode cc pc = .ok (.return_, 1)) (hc : Kx D cI cZ o cc nL p s m args c A) (hRes : Res ws) : KW l D p e R s m args below meth c A (MQ below (QI D Res A) args s cells slots A) ws cells slots pc ls [] := by
  intro H locs hP hD hS
  obtain ⟨hx, hb, -⟩ := hc
  exact W.vret (Qc := QI D Res A) hx hb hr (fun t ht hW => ⟨⟨rfl, ws, hRes, by rw [ht]; exact hP, hD⟩, hS.F ht⟩) hS.2.2 hd hlocks
/-- behind a call -/
theorem kw_back {Res : va_W → Prop} {H : Heap} {locs : List Loc} {st0 rest : List Value} {arr : Array Value} {mc ms : Nat} (hA : ∀ q, s.heap.size ≤ q → A q) (hr : va_Run p l e R s m args below meth c H locs cells slots mc ms (F0 m pc ls st0) rest (QI D Res (va_A ws H.size) arr) (va_A ws H.size)) (hP : va_P D cls ws H) (hD : va_D A ws) (hS : va_S A s.heap H locs)
    (kk : ∀ ws', Res ws' → KW l D p e R s m args below meth c A Qs ws' (cells + mc) (slots + ms) (pc + 3) ls rest) : W p l e R s m args below meth c H locs cells slots Qs (F0 m pc ls st0) := by
  have hfree : ∀ q, va_A ws H.size q → A q := fun q h => by
    rcases h with ⟨k, x, h⟩ | h
    · exact hD.2 k _ h
    · exact hA q (Nat.le_trans hS.1 h)
  intro T hT X
  obtain ⟨v, st₀, t, T', L, h0, X', hL, e1, e2, ⟨⟨hv, ws', hRes, hP', hD'⟩, hz, hk⟩, stp⟩ := hr T hT X
  have hv' : v = none := by
    injection hv
  subst hv'
  rw [h0] at hz hk
  obtain ⟨t2, a1, b1⟩ := kk ws' hRes T'.heap (locs ++ L) (by rw [e1]; exact hP') (hD'.weaken (fun _ q _ h => hfree q.1 h))
    ⟨Nat.le_trans hS.1 (by rw [e1]; exact hz), fun q h1 h2 => by rw [e1, hk q (Nat.lt_of_lt_of_le h1 hS.1) (fun z => h2 (hfree q z))]; exact hS.2.1 q h1 h2, fun q hq => by
      rcases List.mem_append.mp hq with h | h
      · exact hS.2.2 q h
      · exact hfree _ (hL q h)⟩ T' rfl X'
  exact ⟨t2, stp t2 a1, b1⟩
/-- what a call asks of names and words -/
def nameOK (y : MethodName) (n : Nat) : Bool := decide (y.cls ≠ "java/lang/invoke/MethodHandle") && (decide (y.cls ≠ "java/lang/invoke/VarHandle") && decide ((parseMethodDescriptor y.desc).map (fun d => d.parameters.length) = some n))
theorem kw_init {Res : va_W → Prop} {d mc ms mL idx b : Nat} {y : MethodName} {cy : ByteArray} {As rest : List Value} (hIC : IC l D cI cZ d mc ms y cy mL (.ref b :: As) ws Res) (hcw : Cond.code y cy mL none ∈ gw) (hlk : Cond.methodLink (cName o) idx y ∈ gw ∨ Cond.methodLinkNest (cName o) idx y "PlacingDesk" ∈ nwi) (hin : Cond.instanceMethod y ∈ gw) (hini : Cond.initialized y.cls ∈ gw) (hy : y.name = "<init>") (hnm : nameOK y As.length = true) (hmL : mL ≤ 20) (hR : d + 2 ≤ R.frames ∧ 39 + 40 * (d + 1) ≤ R.locals) (hcel : cells + mc ≤ R.cells ∧ slots + ms ≤ R.slots) (hl : ls.size = nL) (hr8 : (rest.map fun v => v.category).sum ≤ 8) (hd : decode cc pc = .ok (.invokespecial idx, 3)) (hc : Kx D cI cZ o cc nL p s m args c A)
    (kk : ∀ ws', Res ws' → KW l D p e R s m args below meth c A Qs ws' (cells + mc) (slots + ms) (pc + 3) ls rest) : KW l D p e R s m args below meth c A Qs ws cells slots pc ls (As.reverse ++ .ref b :: rest) := by
  intro H locs hP hD hS
  obtain ⟨hx, hb, hml, hown, hts, hnw, hK, hA⟩ := hc
  simp only [nameOK, Bool.and_eq_true, decide_eq_true_eq] at hnm
  have hpre : PreS s H (va_Pc (.ref b :: As) (Bq D cI cZ ws H.size)) (.ref b :: As) := ⟨Bq_blind D cI cZ, fun U hU hW => ⟨rfl, by rw [hU], by rw [hU]; exact hP, va_K.moved hW.alike hK, hD.weaken (fun _ _ _ _ => trivial), nwi_warm hW hnw⟩⟩
  have hRx : (rmi d mc ms).frames + 1 ≤ R.frames ∧ 8 + (mL + 11) + (rmi d mc ms).locals ≤ R.locals := ⟨hR.1, by show 8 + (mL + 11) + 40 * (d + 1) ≤ R.locals; omega⟩
  refine kw_back l D (arr := (Value.ref b :: As).toArray) hA ?_ hP hD hS kk
  rcases hlk with hlk | hlk
  · exact va_runI (n := As.length) ⟨hx, hb, hml, hown, hts⟩ (hIC H.size) ⟨callB_of As.length hts (gw_goodC hcw) rfl rfl rfl (hts _ hini) (hts _ hlk) ⟨hnm.1, hnm.2.1, hnm.2.2⟩ hRx, hy, hts _ hin⟩ hpre rfl rfl hl rfl (lv_room hr8) hd hcel
  · exact va_runIN (n := As.length) ⟨hx, hb, hml, hown, hts⟩ (hIC H.size) ⟨va_cnB As.length hts (gw_goodC hcw) rfl rfl rfl (hnw _ hlk) (hts _ hini) ⟨hnm.1, hnm.2.1, hnm.2.2⟩ hRx, hy, hts _ hin⟩ hpre rfl rfl hl rfl (lv_room hr8) hd hcel
theorem kw_stat {Res : va_W → Prop} {d mc ms mL idx : Nat} {y : MethodName} {cy : ByteArray} {As rest : List Value} (hIC : IC l D cI cZ d mc ms y cy mL As ws Res) (hcw : Cond.code y cy mL none ∈ gw) (hlk : Cond.methodLink (cName o) idx y ∈ gw) (hin : Cond.static y ∈ gw) (hini : Cond.initialized y.cls ∈ gw) (hnm : nameOK y As.length = true) (hmL : mL ≤ 20) (hR : d + 2 ≤ R.frames ∧ 39 + 40 * (d + 1) ≤ R.locals) (hcel : cells + mc ≤ R.cells ∧ slots + ms ≤ R.slots) (hl : ls.size = nL) (hr8 : (rest.map fun v => v.category).sum ≤ 8) (hd : decode cc pc = .ok (.invokestatic idx, 3)) (hc : Kx D cI cZ o cc nL p s m args c A)
    (kk : ∀ ws', Res ws' → KW l D p e R s m args below meth c A Qs ws' (cells + mc) (slots + ms) (pc + 3) ls rest) : KW l D p e R s m args below meth c A Qs ws cells slots pc ls (As.reverse ++ rest) := by
  intro H locs hP hD hS
  obtain ⟨hx, hb, hml, hown, hts, hnw, hK, hA⟩ := hc
  simp only [nameOK, Bool.and_eq_true, decide_eq_true_eq] at hnm
  have hpre : PreS s H (va_Pc As (Bq D cI cZ ws H.size)) As := ⟨Bq_blind D cI cZ, fun U hU hW => ⟨rfl, by rw [hU], by rw [hU]; exact hP, va_K.moved hW.alike hK, hD.weaken (fun _ _ _ _ => trivial), nwi_warm hW hnw⟩⟩
  have hRx : (rmi d mc ms).frames + 1 ≤ R.frames ∧ 8 + (mL + 11) + (rmi d mc ms).locals ≤ R.locals := ⟨hR.1, by show 8 + (mL + 11) + 40 * (d + 1) ≤ R.locals; omega⟩
  refine kw_back l D (arr := As.toArray) hA ?_ hP hD hS kk
  exact va_runS (n := As.length) ⟨hx, hb, hml, hown, hts⟩ (hIC H.size) ⟨callB_of As.length hts (gw_goodC hcw) rfl rfl rfl (hts _ hini) (hts _ hlk) ⟨hnm.1, hnm.2.1, hnm.2.2⟩ hRx, hts _ hin⟩ hpre rfl rfl hl rfl (lv_room hr8) hd hcel
/-- a contract out of a body -/
theorem IC_of {d mc ms mL : Nat} {y : MethodName} {cy : ByteArray} {As : List Value} {Res : va_W → Prop} (hy : plainName y.cls = true) (ho : y.cls = cName o) (hn : (lg_sl As).length ≤ mL)
    (body : ∀ (p : Program) (e : Env) (s : State) (m : MethodId) (args : Array Value) (below : List Frame) (meth : Method) (c : Code) (A : Nat → Prop) (ls : Array Slot), Kx D cI cZ o cy mL p s m args c A → meth.name = y.name → meth.sig.returnType = none → meth.locks = false → lv_has ls mL (lv_args 0 As) → KW l D p e (rmi d mc ms) s m args below meth c A (MQ below (QI D Res A) args s mc ms A) ws 0 0 0 ls []) : IC l D cI cZ d mc ms y cy mL As ws Res := by
  intro sz
  refine Met.ofW (cc := cy) (maxL := mL) (ret := none) hy rfl ?_
  intro p e s m args below meth c s₁ B hml hv
  obtain ⟨rfl, hsz, hP, hK, hD0, hnw⟩ := hv
  have hts0 := atoms_spec (ws := Cond.code y cy mL none :: gw) B.pre
  have hts : ∀ w ∈ gw, w.before As.toArray s = true := fun w hw => hts0 w (List.mem_cons_of_mem _ hw)
  have hown : s.vm.findClass y.cls = some m.cls := findClass_of_methodNamed B.named
  rw [ho] at hown
  subst hsz
  have hlv := lv_entry As (n := mL) hn
  rw [lg_entry_eq]
  exact body p e s m _ below meth c (va_A ws s.heap.size) _ ⟨B.exec, B.bytes, hml, hown, hts, hnw, hK, fun q h => Or.inr h⟩ (name_of_methodNamed B.named B.method).1 B.returns B.notSynchronized hlv s.heap [] hP hD0.self va_S.rf
end KWs
