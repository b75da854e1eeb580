/-! Constructors: rows for loops. -/
section KL
variable (l : Launch) (D : va_G) (cI cZ : ClassId)
variable {p : Program} {e : Env} {R : Room} {s : State} {m : MethodId} {args : Array Value} {below : List Frame} {meth : Method} {c : Code} {A : Nat → Prop} {Qs : State → Prop} {cells slots pc : Nat} {ls : Array Slot} {st : List Value} {o : Nat} {cc : ByteArray} {nL : Nat} {ws : va_W}
theorem kw_iload {k : Fin 4} {x : Int32} (hd : decode cc pc = .ok (.iload_n k, 1)) (hl : ls[k.val]? = some (.val (.int x))) (hc : Kx D cI cZ o cc nL p s m args c A) (kk : KW l D p e R s m args below meth c A Qs ws cells slots (pc + 1) ls (.int x :: st)) : KW l D p e R s m args below meth c A Qs ws cells slots pc ls st := by
  intro H locs hP hD hS
  obtain ⟨hx, hb, -⟩ := hc
  exact lv_iload_n hx hb hd rfl hl (kk H locs hP hD hS)
theorem kw_istore {k : Fin 4} {x : Int32} {lv : List (Nat × Value)} (lv' : List (Nat × Value)) (hd : decode cc pc = .ok (.istore_n k, 1)) (hl : lv_has ls nL lv) (hk : k.val < nL) (he : (k.val, Value.int x) :: lv.filter (fun q => !(q.1 == k.val) && !(q.1 + 1 == k.val && q.2.category == 2)) = lv') (hc : Kx D cI cZ o cc nL p s m args c A) (kk : ∀ ls', lv_has ls' nL lv' → KW l D p e R s m args below meth c A Qs ws cells slots (pc + 1) ls' st) : KW l D p e R s m args below meth c A Qs ws cells slots pc ls (.int x :: st) := by
  intro H locs hP hD hS
  obtain ⟨hx, hb, -⟩ := hc
  exact lv_istore_n hx hb hd rfl hl hk he (fun ls' h' => kk ls' h' H locs hP hD hS)
theorem kw_astore {k : Fin 4} {x : Nat} {lv : List (Nat × Value)} (lv' : List (Nat × Value)) (hd : decode cc pc = .ok (.astore_n k, 1)) (hl : lv_has ls nL lv) (hk : k.val < nL) (he : (k.val, Value.ref x) :: lv.filter (fun q => !(q.1 == k.val) && !(q.1 + 1 == k.val && q.2.category == 2)) = lv') (hc : Kx D cI cZ o cc nL p s m args c A) (kk : ∀ ls', lv_has ls' nL lv' → KW l D p e R s m args below meth c A Qs ws cells slots (pc + 1) ls' st) : KW l D p e R s m args below meth c A Qs ws cells slots pc ls (.ref x :: st) := by
  intro H locs hP hD hS
  obtain ⟨hx, hb, -⟩ := hc
  exact lv_astore_n hx hb hd rfl hl hk he (fun ls' h' => kk ls' h' H locs hP hD hS)
theorem kw_iinc {i : Nat} {n : Int} {x : Int32} {lv : List (Nat × Value)} (v : Int32) (lv' : List (Nat × Value)) (k : Nat) (hd : decode cc pc = .ok (.iinc i n, 3)) (hl : lv_has ls nL lv) (hk : lv[k]? = some (i, .int x)) (hv : x + Int32.ofInt n = v) (hi : i < nL) (he : (i, Value.int v) :: lv.filter (fun q => !(q.1 == i) && !(q.1 + 1 == i && q.2.category == 2)) = lv') (hc : Kx D cI cZ o cc nL p s m args c A) (kk : ∀ ls', lv_has ls' nL lv' → KW l D p e R s m args below meth c A Qs ws cells slots (pc + 3) ls' st) : KW l D p e R s m args below meth c A Qs ws cells slots pc ls st := by
  intro H locs hP hD hS
  obtain ⟨hx, hb, -⟩ := hc
  exact lv_iinc hx hb hd hl hk hv hi he (fun ls' h' => kk ls' h' H locs hP hD hS)
theorem kw_goto {off : Int} {tgt : Nat} (hd : decode cc pc = .ok (.goto off, 3)) (ht : (pc : Int) + off = (tgt : Int)) (hc : Kx D cI cZ o cc nL p s m args c A) (kk : KW l D p e R s m args below meth c A Qs ws cells slots tgt ls st) : KW l D p e R s m args below meth c A Qs ws cells slots pc ls st := by
  intro H locs hP hD hS
  obtain ⟨hx, hb, -⟩ := hc
  exact lv_goto hx hb hd ht (kk H locs hP hD hS)
theorem kw_ge {off : Int} {tgt : Nat} {x y : Int32} (hd : decode cc pc = .ok (.if_icmp .ge off, 3)) (ht : (pc : Int) + off = (tgt : Int)) (hc : Kx D cI cZ o cc nL p s m args c A) (k1 : y ≤ x → KW l D p e R s m args below meth c A Qs ws cells slots tgt ls st) (k2 : ¬ y ≤ x → KW l D p e R s m args below meth c A Qs ws cells slots (pc + 3) ls st) : KW l D p e R s m args below meth c A Qs ws cells slots pc ls (.int y :: .int x :: st) := by
  intro H locs hP hD hS
  obtain ⟨hx, hb, -⟩ := hc
  exact lv_icmp_ge hx hb hd ht (fun z => k1 z H locs hP hD hS) (fun z => k2 z H locs hP hD hS)
theorem kw_iast {ws0 loc loc' : va_W} (j : Nat) {q n i : Nat} {x : Int32} {f : Nat → Int32} (hj : loc[j]? = some (q, .inl (cI, n, .inl f))) (hi : i < n) (hn : n < 2000) (hs : loc.set j (q, .inl (cI, n, .inl (upd f i x))) = loc') (hd : decode cc pc = .ok (.iastore, 1)) (hc : Kx D cI cZ o cc nL p s m args c A) (kk : KW l D p e R s m args below meth c A Qs (ws0 ++ loc') cells slots (pc + 1) ls st) : KW l D p e R s m args below meth c A Qs (ws0 ++ loc) cells slots pc ls (.int x :: .int (nI i) :: .ref q :: st) := by
  intro H locs hP hD hS
  obtain ⟨hx, hb, hml, hown, hts, -, hK, hA⟩ := hc
  refine va_iast hx hb hK hP hD hS (ws0.length + j) 0 (app_atJ j hj) rfl (vp_in_nI hi (by omega)) hd (fun H1 locs1 hP1 hD1 hS1 => ?_)
  rw [app_setJ, nI_clamp (by omega), hs] at hP1 hD1
  exact kk H1 locs1 hP1 hD1 hS1
theorem kw_iload0 {k : Fin 4} {x : Int32} {lv : List (Nat × Value)} (j : Nat) (hd : decode cc pc = .ok (.iload_n k, 1)) (hl : lv_has ls nL lv) (hj : lv[j]? = some (k.val, .int x)) (hc : Kx D cI cZ o cc nL p s m args c A) (kk : KW l D p e R s m args below meth c A Qs ws cells slots (pc + 1) ls (.int x :: st)) : KW l D p e R s m args below meth c A Qs ws cells slots pc ls st := kw_iload l D cI cZ hd (lv_at hl j hj) hc kk
end KL
