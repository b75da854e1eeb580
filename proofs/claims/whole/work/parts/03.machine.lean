/-! The small machine: ints and references to numbered cells; memory as a function; what it does is what the real one does (step_sound). -/
abbrev V : Type := Int32 ⊕ Nat
abbrev Mem : Type := Nat → Nat → Int32
abbrev Lc : Type := List (Option V)
def nth {α : Type} : List α → Nat → Option α
  | [], _ => none
  | x :: _, 0 => some x
  | _ :: t, n + 1 => nth t n
theorem nth_eq {α : Type} : ∀ (l : List α) (k : Nat), nth l k = l[k]?
  | [], k => by simp [nth]
  | x :: t, 0 => by simp [nth]
  | x :: t, n + 1 => by simp [nth, nth_eq t n]
def nthO : Lc → Nat → Option V
  | [], _ => none
  | v :: _, 0 => v
  | _ :: t, n + 1 => nthO t n
def setO : Lc → Nat → V → Lc
  | [], _, _ => []
  | _ :: t, 0, v => some v :: t
  | u :: t, n + 1, v => u :: setO t n v
def fetch (T : List (List (Option Ent))) (pc : Nat) : Option Ent := match nth T (pc / 16) with
  | some r => (match nth r (pc % 16) with
    | some (some e) => some e
    | _ => none)
  | none => none
def mrow (mi : Nat) : Mrow := match nth mtab (mi / 16) with
  | some r => (match nth r (mi % 16) with
    | some q => q
    | none => mr_L_law)
  | none => mr_L_law
def mName (mi : Nat) : MethodName := (mrow mi).1
def mBytes (mi : Nat) : ByteArray := (mrow mi).2.1
def mMax (mi : Nat) : Nat := (mrow mi).2.2.1
def mRet (mi : Nat) : Option FieldType := (mrow mi).2.2.2.1
def mOwn (mi : Nat) : Nat := (mrow mi).2.2.2.2.1
def mArgs (mi : Nat) : Nat := (mrow mi).2.2.2.2.2.1
def mStat (mi : Nat) : Bool := (mrow mi).2.2.2.2.2.2.1
def mCode (mi : Nat) : List (List (Option Ent)) := (mrow mi).2.2.2.2.2.2.2
def cName (k : Nat) : String := match nth cnam k with
  | some s => s
  | none => ""
def shp (k : Nat) : Option Shp := nth shapes k
def mset (M : Mem) (k j : Nat) (x : Int32) : Mem := fun k' => if k' = k then upd (M k) j x else M k'
def memN : List Nat → Nat → Bool
  | [], _ => false
  | x :: t, n => Nat.beq x n || memN t n
def pushR (t : Option FieldType) (r : Int32) (st : List V) : List V := match t with
  | none => st
  | some _ => .inl r :: st
def ifz (st : List V) (k : Int32 → List V → Prop) : Prop := match st with
  | .inl z :: r => k z r
  | _ => False
def ifzz (st : List V) (k : Int32 → Int32 → List V → Prop) : Prop := match st with
  | .inl y :: .inl x :: r => k x y r
  | _ => False
def swJ (z : Int32) (k : Nat → Prop) (d : Nat) : List (Int32 × Nat) → Prop
  | [] => k d
  | (c, t) :: r => (z = c → k t) ∧ (¬ z = c → swJ z k d r)
section ST
variable (SL : Nat) (CJ : Nat → List V → Mem → (Int32 → Mem → Prop) → Prop) (RQ : Int32 → Mem → Prop) (K : Nat → Lc → List V → Mem → Prop)
def stepJ (rz : Option FieldType) (pc : Nat) (e : Ent) (L : Lc) (st : List V) (M : Mem) : Prop :=
  match e with
  | (ins, len, x, y, c) =>
    match ins with
    | .iconst _ => K (pc + len) L (.inl c :: st) M
    | .bipush _ => K (pc + len) L (.inl c :: st) M
    | .sipush _ => K (pc + len) L (.inl c :: st) M
    | .ldc _ => K (pc + len) L (.inl c :: st) M
    | .ldc_w _ => K (pc + len) L (.inl c :: st) M
    | .iload_n _ => (match nthO L x with
      | some (.inl z) => K (pc + len) L (.inl z :: st) M
      | _ => False)
    | .iload _ => (match nthO L x with
      | some (.inl z) => K (pc + len) L (.inl z :: st) M
      | _ => False)
    | .aload_n _ => (match nthO L x with
      | some (.inr z) => K (pc + len) L (.inr z :: st) M
      | _ => False)
    | .aload _ => (match nthO L x with
      | some (.inr z) => K (pc + len) L (.inr z :: st) M
      | _ => False)
    | .istore_n _ => ifz st (fun z r => K (pc + len) (setO L x (.inl z)) r M)
    | .istore _ => ifz st (fun z r => K (pc + len) (setO L x (.inl z)) r M)
    | .iinc _ _ => (match nthO L x with
      | some (.inl z) => K (pc + len) (setO L x (.inl (z + c))) st M
      | _ => False)
    | .iadd => ifzz st (fun u v r => K (pc + len) L (.inl (u + v) :: r) M)
    | .isub => ifzz st (fun u v r => K (pc + len) L (.inl (u - v) :: r) M)
    | .imul => ifzz st (fun u v r => K (pc + len) L (.inl (u * v) :: r) M)
    | .iand => ifzz st (fun u v r => K (pc + len) L (.inl (u &&& v) :: r) M)
    | .ior => ifzz st (fun u v r => K (pc + len) L (.inl (u ||| v) :: r) M)
    | .ixor => ifzz st (fun u v r => K (pc + len) L (.inl (u ^^^ v) :: r) M)
    | .ishl => ifzz st (fun u v r => K (pc + len) L (.inl (u <<< (v &&& 31)) :: r) M)
    | .ishr => ifzz st (fun u v r => K (pc + len) L (.inl (u >>> (v &&& 31)) :: r) M)
    | .iushr => ifzz st (fun u v r => K (pc + len) L (.inl ((u.toUInt32 >>> (v.toUInt32 &&& Int32.toUInt32 31)).toInt32) :: r) M)
    | .irem => ifzz st (fun u v r => ¬ v = 0 ∧ K (pc + len) L (.inl (u - u / v * v) :: r) M)
    | .ineg => ifz st (fun z r => K (pc + len) L (.inl (-z) :: r) M)
    | .ifCond .eq _ => ifz st (fun z r => (z = 0 → K x L r M) ∧ (¬ z = 0 → K (pc + len) L r M))
    | .ifCond .ne _ => ifz st (fun z r => (¬ z = 0 → K x L r M) ∧ (z = 0 → K (pc + len) L r M))
    | .ifCond .lt _ => ifz st (fun z r => (z < 0 → K x L r M) ∧ (¬ z < 0 → K (pc + len) L r M))
    | .ifCond .ge _ => ifz st (fun z r => (0 ≤ z → K x L r M) ∧ (¬ 0 ≤ z → K (pc + len) L r M))
    | .ifCond .gt _ => ifz st (fun z r => (0 < z → K x L r M) ∧ (¬ 0 < z → K (pc + len) L r M))
    | .ifCond .le _ => ifz st (fun z r => (z ≤ 0 → K x L r M) ∧ (¬ z ≤ 0 → K (pc + len) L r M))
    | .if_icmp .eq _ => ifzz st (fun u v r => (u = v → K x L r M) ∧ (¬ u = v → K (pc + len) L r M))
    | .if_icmp .ne _ => ifzz st (fun u v r => (¬ u = v → K x L r M) ∧ (u = v → K (pc + len) L r M))
    | .if_icmp .lt _ => ifzz st (fun u v r => (u < v → K x L r M) ∧ (¬ u < v → K (pc + len) L r M))
    | .if_icmp .ge _ => ifzz st (fun u v r => (v ≤ u → K x L r M) ∧ (¬ v ≤ u → K (pc + len) L r M))
    | .if_icmp .gt _ => ifzz st (fun u v r => (v < u → K x L r M) ∧ (¬ v < u → K (pc + len) L r M))
    | .if_icmp .le _ => ifzz st (fun u v r => (u ≤ v → K x L r M) ∧ (¬ u ≤ v → K (pc + len) L r M))
    | .goto _ => K x L st M
    | .getfield _ => (match st with
      | .inr k :: r => (match shp k with
        | some (.inr (ci, ts)) => (match Nat.beq ci x with
          | true => (match nth ts y with
            | some 0 => K (pc + len) L (.inl (M k y) :: r) M
            | some 1 => K (pc + len) L (.inl (M k y) :: r) M
            | some (q + 2) => K (pc + len) L (.inr q :: r) M
            | none => False)
          | false => False)
        | _ => False)
      | _ => False)
    | .putfield _ => (match st with
      | .inl z :: .inr k :: r => (match shp k with
        | some (.inr (ci, ts)) => (match Nat.beq ci x with
          | true => (match nth ts y with
            | some 0 => K (pc + len) L r (mset M k y z)
            | some 1 => (z = 0 ∨ z = 1) ∧ K (pc + len) L r (mset M k y z)
            | _ => False)
          | false => False)
        | _ => False)
      | _ => False)
    | .iaload => (match st with
      | .inl i :: .inr k :: r => (match shp k with
        | some (.inl (n, false)) => vp_in i n ∧ K (pc + len) L (.inl (M k i.toNatClampNeg) :: r) M
        | none => (match Nat.beq k 1000 with
          | true => vp_in i (SL - 1) ∧ K (pc + len) L (.inl (M 1000 i.toNatClampNeg) :: r) M
          | false => False)
        | _ => False)
      | _ => False)
    | .baload => (match st with
      | .inl i :: .inr k :: r => (match shp k with
        | some (.inl (n, true)) => vp_in i n ∧ K (pc + len) L (.inl (M k i.toNatClampNeg) :: r) M
        | _ => False)
      | _ => False)
    | .iastore => (match st with
      | .inl z :: .inl i :: .inr k :: r => (match shp k with
        | some (.inl (n, false)) => vp_in i n ∧ K (pc + len) L r (mset M k i.toNatClampNeg z)
        | _ => False)
      | _ => False)
    | .bastore => (match st with
      | .inl z :: .inl i :: .inr k :: r => (match shp k with
        | some (.inl (n, true)) => vp_in i n ∧ (z = 0 ∨ z = 1) ∧ K (pc + len) L r (mset M k i.toNatClampNeg z)
        | _ => False)
      | _ => False)
    | .arraylength => (match st with
      | .inr k :: r => (match shp k with
        | some (.inl (n, _)) => K (pc + len) L (.inl (nI n) :: r) M
        | none => (match Nat.beq k 1000 with
          | true => ¬ SL = 0 ∧ K (pc + len) L (.inl (nI (SL - 1)) :: r) M
          | false => False)
        | _ => False)
      | _ => False)
    | .invokestatic _ => (match Nat.beq (mOwn x) 12 with
      | true => (match Nat.ble st.length 8 with
        | true => (match Nat.beq x n_JM_abs with
          | true => ifz st (fun z r => K (pc + len) L (.inl (if 0 ≤ z then z else 0 - z) :: r) M)
          | false => (match Nat.beq x n_JM_max with
            | true => ifzz st (fun u v r => K (pc + len) L (.inl (if u < v then v else u) :: r) M)
            | false => (match Nat.beq x n_JM_min with
              | true => ifzz st (fun u v r => K (pc + len) L (.inl (if v < u then v else u) :: r) M)
              | false => False)))
        | false => False)
      | false => (match Nat.ble y st.length && Nat.ble (st.length - y) 8 with
        | true => CJ x (st.take y).reverse M (fun r M' => K (pc + len) L (pushR (mRet x) r (st.drop y)) M')
        | false => False))
    | .invokevirtual _ => (match st.drop y with
      | .inr k :: rest => (match shp k with
        | some (.inr (ci, _)) => (match Nat.beq ci (mOwn x) && (Nat.ble y st.length && Nat.ble rest.length 8) with
          | true => CJ x (.inr k :: (st.take y).reverse) M (fun r M' => K (pc + len) L (pushR (mRet x) r rest) M')
          | false => False)
        | _ => False)
      | _ => False)
    | .ireturn => (match st with
      | [.inl z] => (match rz with
        | some .boolean => (z = 0 ∨ z = 1) ∧ RQ z M
        | some .int => RQ z M
        | _ => False)
      | _ => False)
    | .return_ => (match st with
      | [] => (match rz with
        | none => RQ 0 M
        | _ => False)
      | _ => False)
    | .dup => (match st with
      | u :: r => K (pc + len) L (u :: u :: r) M
      | _ => False)
    | .dup2 => (match st with
      | u :: v :: r => K (pc + len) L (u :: v :: u :: v :: r) M
      | _ => False)
    | .tableswitch _ _ _ _ => ifz st (fun z r => (match nth sws x with
      | some (tb, d) => swJ z (fun t => K t L r M) d tb
      | none => False))
    | .lookupswitch _ _ => ifz st (fun z r => (match nth sws x with
      | some (tb, d) => swJ z (fun t => K t L r M) d tb
      | none => False))
    | _ => False
end ST
def stepsJ (SL : Nat) (CJ : Nat → List V → Mem → (Int32 → Mem → Prop) → Prop) (RQ : Int32 → Mem → Prop) (K : Nat → Lc → List V → Mem → Prop) (T : List (List (Option Ent))) (rz : Option FieldType) (cuts : List Nat) : Nat → Nat → Lc → List V → Mem → Prop
  | 0, pc, L, st, M => K pc L st M
  | n + 1, pc, L, st, M => match fetch T pc with
    | none => False
    | some e => stepJ SL CJ RQ (fun pc' L' st' M' => match memN cuts pc' with
      | true => K pc' L' st' M'
      | false => stepsJ SL CJ RQ K T rz cuts n pc' L' st' M') rz pc e L st M
/-! what must hold of the tables -/
def swOK (pc : Nat) (lo : Int) : List Int → List (Int32 × Nat) → Bool
  | [], [] => true
  | o :: os, (c, t) :: r => decide (c.toInt = lo) && (decide ((pc : Int) + o = (t : Int)) && swOK pc (lo + 1) os r)
  | _, _ => false
def lkOK (pc : Nat) : List (Int × Int) → List (Int32 × Nat) → Bool
  | [], [] => true
  | (a, o) :: os, (c, t) :: r => decide (c.toInt = a) && (decide ((pc : Int) + o = (t : Int)) && lkOK pc os r)
  | _, _ => false
def inF (q : Nat × Nat × Nat × Nat) : List (Nat × Nat × Nat × Nat) → Bool
  | [] => false
  | p :: t => (Nat.beq p.1 q.1 && (Nat.beq p.2.1 q.2.1 && (Nat.beq p.2.2.1 q.2.2.1 && Nat.beq p.2.2.2 q.2.2.2))) || inF q t
theorem inF_mem {q : Nat × Nat × Nat × Nat} : ∀ {l : List (Nat × Nat × Nat × Nat)}, inF q l = true → q ∈ l
  | [], h => by simp [inF] at h
  | p :: t, h => by
    simp only [inF, Bool.or_eq_true, Bool.and_eq_true] at h
    rcases h with ⟨h1, h2, h3, h4⟩ | h
    · obtain ⟨a, b, c, d⟩ := p
      obtain ⟨a', b', c', d'⟩ := q
      dsimp only at h1 h2 h3 h4
      rw [Nat.eq_of_beq_eq_true h1, Nat.eq_of_beq_eq_true h2, Nat.eq_of_beq_eq_true h3, Nat.eq_of_beq_eq_true h4]
      exact List.mem_cons_self
    · exact List.mem_cons_of_mem _ (inF_mem h)
def inM (o i x : Nat) : List (Nat × Nat × Nat × Bool) → Bool
  | [] => false
  | p :: t => (Nat.beq p.1 o && (Nat.beq p.2.1 i && Nat.beq p.2.2.1 x)) || inM o i x t
theorem inM_mem {o i x : Nat} : ∀ {l : List (Nat × Nat × Nat × Bool)}, inM o i x l = true → ∃ b, (o, i, x, b) ∈ l
  | [], h => by simp [inM] at h
  | p :: t, h => by
    simp only [inM, Bool.or_eq_true, Bool.and_eq_true] at h
    rcases h with ⟨h1, h2, h3⟩ | h
    · obtain ⟨a, b, c, d⟩ := p
      dsimp only at h1 h2 h3
      rw [← Nat.eq_of_beq_eq_true h1, ← Nat.eq_of_beq_eq_true h2, ← Nat.eq_of_beq_eq_true h3]
      exact ⟨d, List.mem_cons_self⟩
    · obtain ⟨b, hb⟩ := inM_mem h
      exact ⟨b, List.mem_cons_of_mem _ hb⟩
def sideOK (mL own pc : Nat) (e : Ent) : Bool :=
  match e with
  | (ins, len, x, y, c) =>
    match ins with
    | .iconst n => Nat.beq len 1 && decide (Int32.ofInt n = c)
    | .bipush n => Nat.beq len 2 && decide ((Int8.ofInt n).toInt32 = c)
    | .sipush n => Nat.beq len 3 && decide ((Int16.ofInt n).toInt32 = c)
    | .ldc i => Nat.beq len 2 && decide ((own, i, c) ∈ clinks)
    | .ldc_w i => Nat.beq len 3 && decide ((own, i, c) ∈ clinks)
    | .iload_n k => Nat.beq len 1 && Nat.beq k.val x
    | .iload i => Nat.beq len 2 && Nat.beq i x
    | .aload_n k => Nat.beq len 1 && Nat.beq k.val x
    | .aload i => Nat.beq len 2 && Nat.beq i x
    | .istore_n k => Nat.beq len 1 && (Nat.beq k.val x && Nat.ble (x + 1) mL)
    | .istore i => Nat.beq len 2 && (Nat.beq i x && Nat.ble (x + 1) mL)
    | .iinc i n => Nat.beq len 3 && (Nat.beq i x && (Nat.ble (x + 1) mL && decide (Int32.ofInt n = c)))
    | .iadd => Nat.beq len 1
    | .isub => Nat.beq len 1
    | .imul => Nat.beq len 1
    | .iand => Nat.beq len 1
    | .ior => Nat.beq len 1
    | .ixor => Nat.beq len 1
    | .ishl => Nat.beq len 1
    | .ishr => Nat.beq len 1
    | .iushr => Nat.beq len 1
    | .irem => Nat.beq len 1
    | .ineg => Nat.beq len 1
    | .ifCond _ o => Nat.beq len 3 && decide ((pc : Int) + o = (x : Int))
    | .if_icmp _ o => Nat.beq len 3 && decide ((pc : Int) + o = (x : Int))
    | .goto o => Nat.beq len 3 && decide ((pc : Int) + o = (x : Int))
    | .getfield i => Nat.beq len 3 && inF (own, i, x, y) flinks
    | .putfield i => Nat.beq len 3 && inF (own, i, x, y) flinks
    | .iaload => Nat.beq len 1
    | .baload => Nat.beq len 1
    | .iastore => Nat.beq len 1
    | .bastore => Nat.beq len 1
    | .arraylength => Nat.beq len 1
    | .invokestatic i => Nat.beq len 3 && (inM own i x mlinks && (mStat x && Nat.beq (mArgs x) y))
    | .invokevirtual i => Nat.beq len 3 && (inM own i x mlinks && (!mStat x && Nat.beq (mArgs x) y))
    | .ireturn => Nat.beq len 1
    | .return_ => Nat.beq len 1
    | .dup => Nat.beq len 1
    | .dup2 => Nat.beq len 1
    | .tableswitch d lo hi offs => (match nth sws x with
      | some (tb, t) => decide ((pc : Int) + d = (t : Int)) && (swOK pc lo offs.toList tb && decide (hi + 1 = lo + (tb.length : Int)))
      | none => false)
    | .lookupswitch d ps => (match nth sws x with
      | some (tb, t) => decide ((pc : Int) + d = (t : Int)) && (lkOK pc ps.toList tb && (ps.toList.zip (ps.toList.drop 1)).all (fun (a, next) => decide (a.1 < next.1)))
      | none => false)
    | _ => true
def entOK (mi pc : Nat) : Bool := match fetch (mCode mi) pc with
  | none => true
  | some e => decide (decode (mBytes mi) pc = .ok (e.1, e.2.1)) && sideOK (mMax mi) (mOwn mi) pc e
def mOK (mi : Nat) : Bool := (List.range (16 * (mCode mi).length)).all (entOK mi)
