/-! The small machine's steps are the real one's. -/
def fv (a : Nat → Nat) (M : Mem) (k j t : Nat) : Value := match t with
  | 0 => .int (M k j)
  | 1 => .int (M k j)
  | r + 2 => .ref (a r)
def fval (a : Nat → Nat) (M : Mem) (k : Nat) : Nat → List Nat → List Value
  | _, [] => []
  | j, t :: ts => fv a M k j t :: fval a M k (j + 1) ts
theorem fval_get (a : Nat → Nat) (M : Mem) (k : Nat) : ∀ (ts : List Nat) (j0 j : Nat), (fval a M k j0 ts)[j]? = (ts[j]?).map (fun t => fv a M k (j0 + j) t)
  | [], j0, j => by simp [fval]
  | t :: ts, j0, 0 => by simp [fval]
  | t :: ts, j0, j + 1 => by
    simp only [fval, List.getElem?_cons_succ]
    rw [fval_get a M k ts (j0 + 1) j]
    congr 1
    funext t
    congr 1
    omega
theorem fval_len (a : Nat → Nat) (M : Mem) (k : Nat) : ∀ (ts : List Nat) (j0 : Nat), (fval a M k j0 ts).length = ts.length
  | [], j0 => rfl
  | t :: ts, j0 => by simp [fval, fval_len a M k ts (j0 + 1)]
def vv (a : Nat → Nat) : V → Value
  | .inl x => .int x
  | .inr k => .ref (a k)
theorem vv_cat (a : Nat → Nat) (v : V) : (vv a v).category = 1 := by cases v <;> rfl
theorem vv_sum (a : Nat → Nat) : ∀ st : List V, ((st.map (vv a)).map fun v => v.category).sum = st.length
  | [] => rfl
  | v :: r => by
    simp only [List.map_cons, List.sum_cons, List.length_cons, vv_sum a r, vv_cat]
    omega
def lvl (a : Nat → Nat) : Nat → Lc → List (Nat × Value)
  | _, [] => []
  | i, none :: t => lvl a (i + 1) t
  | i, some v :: t => (i, vv a v) :: lvl a (i + 1) t
theorem lvl_mem (a : Nat → Nat) : ∀ (L : Lc) (i : Nat) (q : Nat × Value), q ∈ lvl a i L ↔ ∃ j v, nthO L j = some v ∧ q = (i + j, vv a v)
  | [], i, q => by simp [lvl, nthO]
  | none :: t, i, q => by
    simp only [lvl]
    rw [lvl_mem a t (i + 1) q]
    constructor
    · rintro ⟨j, v, h, e⟩
      exact ⟨j + 1, v, h, by rw [e]; congr 1; omega⟩
    · rintro ⟨j, v, h, e⟩
      cases j with
      | zero => simp [nthO] at h
      | succ j => exact ⟨j, v, h, by rw [e]; congr 1; omega⟩
  | some u :: t, i, q => by
    simp only [lvl, List.mem_cons]
    rw [lvl_mem a t (i + 1) q]
    constructor
    · rintro (e | ⟨j, v, h, e⟩)
      · exact ⟨0, u, rfl, e⟩
      · exact ⟨j + 1, v, h, by rw [e]; congr 1; omega⟩
    · rintro ⟨j, v, h, e⟩
      cases j with
      | zero =>
        simp only [nthO, Option.some.injEq] at h
        subst h
        exact Or.inl e
      | succ j => exact Or.inr ⟨j, v, h, by rw [e]; congr 1; omega⟩
theorem nthO_set : ∀ (L : Lc) (i j : Nat) (v w : V), nthO (setO L i v) j = some w → (j = i ∧ w = v) ∨ (j ≠ i ∧ nthO L j = some w)
  | [], i, j, v, w, h => by simp [setO, nthO] at h
  | u :: t, 0, 0, v, w, h => by
    simp only [setO, nthO, Option.some.injEq] at h
    exact Or.inl ⟨rfl, h.symm⟩
  | u :: t, 0, j + 1, v, w, h => Or.inr ⟨by omega, h⟩
  | u :: t, i + 1, 0, v, w, h => Or.inr ⟨by omega, h⟩
  | u :: t, i + 1, j + 1, v, w, h => by
    rcases nthO_set t i j v w h with ⟨h1, h2⟩ | ⟨h1, h2⟩
    · exact Or.inl ⟨by omega, h2⟩
    · exact Or.inr ⟨by omega, h2⟩
theorem lvl_at {a : Nat → Nat} {ls : Array Slot} {nL : Nat} {L : Lc} (h : lv_has ls nL (lvl a 0 L)) {x : Nat} {v : V} (hv : nthO L x = some v) : ls[x]? = some (.val (vv a v)) :=
  h.2.2 (x, vv a v) ((lvl_mem a L 0 _).mpr ⟨x, v, hv, by simp⟩)
theorem lvl_set {a : Nat → Nat} {ls : Array Slot} {nL : Nat} {L : Lc} {i : Nat} {z : Int32} (h : lv_has ls nL ((i, Value.int z) :: (lvl a 0 L).filter (fun q => !(q.1 == i) && !(q.1 + 1 == i && q.2.category == 2)))) : lv_has ls nL (lvl a 0 (setO L i (.inl z))) := by
  refine ⟨h.1, h.2.1, fun q hq => ?_⟩
  obtain ⟨j, v, hv, e⟩ := (lvl_mem a _ 0 q).mp hq
  rcases nthO_set L i j _ v hv with ⟨h1, h2⟩ | ⟨h1, h2⟩
  · subst h1; subst h2
    refine h.2.2 q ?_
    rw [e, Nat.zero_add]
    exact List.mem_cons_self
  · refine h.2.2 q (List.mem_cons_of_mem _ (List.mem_filter.mpr ⟨(lvl_mem a L 0 q).mpr ⟨j, v, h2, e⟩, ?_⟩))
    rw [e]
    simp [vv_cat, h1]
section WD
variable (cI cZ : ClassId) (a : Nat → Nat)
def celE (M : Mem) (k : Nat) (s : Shp) : va_E := match s with
  | .inl (n, false) => .inl (cI, n, .inl (M k))
  | .inl (n, true) => .inl (cZ, n, .inl (M k))
  | .inr (ci, ts) => .inr (ci, fval a M k 0 ts)
def wdF (M : Mem) : Nat → List Shp → va_W
  | _, [] => []
  | k, s :: ss => (a k, celE cI cZ a M k s) :: wdF M (k + 1) ss
def wd (M : Mem) : va_W := wdF cI cZ a M 0 shapes
theorem wdF_get (M : Mem) : ∀ (ss : List Shp) (k0 k : Nat), (wdF cI cZ a M k0 ss)[k]? = (ss[k]?).map (fun s => (a (k0 + k), celE cI cZ a M (k0 + k) s))
  | [], k0, k => by simp [wdF]
  | s :: ss, k0, 0 => by simp [wdF]
  | s :: ss, k0, k + 1 => by
    simp only [wdF, List.getElem?_cons_succ]
    rw [wdF_get M ss (k0 + 1) k]
    congr 1
    funext s
    rw [show k0 + 1 + k = k0 + (k + 1) by omega]
theorem wd_getM (M : Mem) (k : Nat) : (wd cI cZ a M)[k]? = (shapes[k]?).map (fun s => (a k, celE cI cZ a M k s)) := by
  unfold wd
  rw [wdF_get]
  simp
theorem wd_get {M : Mem} {k : Nat} {s : Shp} (h : shp k = some s) : (wd cI cZ a M)[k]? = some (a k, celE cI cZ a M k s) := by
  rw [wd_getM]
  unfold shp at h
  rw [nth_eq] at h
  rw [h]
  rfl
theorem celE_other {M : Mem} {k i j : Nat} {x : Int32} (h : i ≠ k) (s : Shp) : celE cI cZ a (mset M k j x) i s = celE cI cZ a M i s := by
  have e : mset M k j x i = M i := by simp [mset, h]
  have e2 : ∀ (ts : List Nat) (j0 : Nat), fval a (mset M k j x) i j0 ts = fval a M i j0 ts := by
    intro ts
    induction ts with
    | nil => intro j0; rfl
    | cons t ts ih =>
      intro j0
      simp only [fval]
      rw [ih (j0 + 1)]
      congr 1
      unfold fv
      split <;> first | rw [e] | rfl
  unfold celE
  split
  · rw [e]
  · rw [e]
  · rw [e2]
theorem wd_set {M : Mem} {k j : Nat} {x : Int32} {s : Shp} (h : shp k = some s) {E : va_E} (hE : E = celE cI cZ a (mset M k j x) k s) : (wd cI cZ a M).set k (a k, E) = wd cI cZ a (mset M k j x) := by
  have hs : shapes[k]? = some s := by rw [← nth_eq]; exact h
  have hl : k < (wd cI cZ a M).length := (List.getElem?_eq_some_iff.mp (wd_get cI cZ a (M := M) h)).1
  apply List.ext_getElem?
  intro i
  rw [List.getElem?_set, wd_getM, wd_getM]
  by_cases e : k = i
  · subst e
    rw [if_pos rfl, if_pos hl, hs, hE]
    rfl
  · rw [if_neg e]
    cases hh : shapes[i]? with
    | none => rfl
    | some s' =>
      simp only [Option.map_some]
      rw [celE_other cI cZ a (fun q => e q.symm)]
theorem celE_arrI {M : Mem} {k n j : Nat} {x : Int32} : (.inl (cI, n, .inl (upd (M k) j x)) : va_E) = celE cI cZ a (mset M k j x) k (.inl (n, false)) := by
  simp [celE, mset]
theorem celE_arrZ {M : Mem} {k n j : Nat} {x : Int32} : (.inl (cZ, n, .inl (upd (M k) j x)) : va_E) = celE cI cZ a (mset M k j x) k (.inl (n, true)) := by
  simp [celE, mset]
theorem celE_obj {M : Mem} {k ci j t : Nat} {ts : List Nat} {x : Int32} (ht : nth ts j = some t) (h2 : t < 2) : (.inr (ci, (fval a M k 0 ts).set j (.int x)) : va_E) = celE cI cZ a (mset M k j x) k (.inr (ci, ts)) := by
  rw [nth_eq] at ht
  unfold celE
  dsimp only
  congr 2
  apply List.ext_getElem?
  intro i
  have hl : j < (fval a M k 0 ts).length := by rw [fval_len]; exact (List.getElem?_eq_some_iff.mp ht).1
  rw [List.getElem?_set, fval_get, fval_get]
  by_cases e : j = i
  · subst e
    rw [if_pos rfl, if_pos hl, ht]
    have e3 : mset M k j x k (0 + j) = x := by simp [mset, upd]
    simp only [Option.map_some]
    unfold fv
    split
    · rw [e3]
    · rw [e3]
    · omega
  · rw [if_neg e]
    cases ts[i]? with
    | none => rfl
    | some t' =>
      simp only [Option.map_some]
      have e3 : mset M k j x k (0 + i) = M k (0 + i) := by
        simp only [mset, if_true, upd]
        rw [if_neg (by omega)]
      unfold fv
      split <;> first | rw [e3] | rfl
end WD
