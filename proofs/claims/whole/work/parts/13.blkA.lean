/-! printed by wip/gen/allblocks.py: what each body owes at its cuts -/
theorem b_B_hasPlaceOf_0 {E : Env0} {d : Nat} (x1 : Int32) {M : Mem} {Q : Int32 → Mem → Prop} (h :
    JE E d n_B_hasPlaceOf 2 [some (Sum.inr 1), some (Sum.inl x1), some (Sum.inl 0)] [] M Q) : JE E (d) n_B_hasPlaceOf 0 [some (Sum.inr 1), some (Sum.inl x1), none] [] M Q :=
  JE_steps 1000 [2] (by decide) h
theorem b_B_hasPlaceOf_2 {E : Env0} {d : Nat} (x1 : Int32) (x2 : Int32) {M : Mem} {Q : Int32 → Mem → Prop} (h :
    ((M 1 4) ≤ x2 →
      Z01 0 ∧ Q 0 M) ∧
    (¬ (M 1 4) ≤ x2 →
      vp_in x2 10 ∧
      (¬ (M 8 (Int32.toNatClampNeg x2)) = x1 →
        JE E d n_B_hasPlaceOf 2 [some (Sum.inr 1), some (Sum.inl x1), some (Sum.inl (x2 + 1))] [] M Q) ∧
      ((M 8 (Int32.toNatClampNeg x2)) = x1 →
        Z01 1 ∧ Q 1 M))) : JE E (d) n_B_hasPlaceOf 2 [some (Sum.inr 1), some (Sum.inl x1), some (Sum.inl x2)] [] M Q :=
  JE_steps 1000 [2] (by decide) h
theorem b_B_nozzleOf_0 {E : Env0} {d : Nat} (x1 : Int32) {M : Mem} {Q : Int32 → Mem → Prop} (h :
    vp_in x1 10 ∧
    vp_in (M 8 (Int32.toNatClampNeg x1)) 8 ∧
    Q (M 4 (Int32.toNatClampNeg (M 8 (Int32.toNatClampNeg x1)))) M) : JE E (d) n_B_nozzleOf 0 [some (Sum.inr 1), some (Sum.inl x1)] [] M Q :=
  JE_steps 1000 [] (by decide) h
theorem b_B_isFine_0 {E : Env0} {d : Nat} (x1 : Int32) {M : Mem} {Q : Int32 → Mem → Prop} (h :
    vp_in x1 10 ∧
    vp_in (M 8 (Int32.toNatClampNeg x1)) 8 ∧
    Z01 (M 5 (Int32.toNatClampNeg (M 8 (Int32.toNatClampNeg x1)))) ∧ Q (M 5 (Int32.toNatClampNeg (M 8 (Int32.toNatClampNeg x1)))) M) : JE E (d) n_B_isFine 0 [some (Sum.inr 1), some (Sum.inl x1)] [] M Q :=
  JE_steps 1000 [] (by decide) h
theorem b_B_addPlace_0 {E : Env0} {d : Nat} (x1 : Int32) (x2 : Int32) (x3 : Int32) {M : Mem} {Q : Int32 → Mem → Prop} (h :
    ((M 1 4) < (10 : Int32) →
      JE E d n_B_addPlace 20 [some (Sum.inr 1), some (Sum.inl x1), some (Sum.inl x2), some (Sum.inl x3), some (Sum.inl 0), some (Sum.inl 0), some (Sum.inl 0), none, none] [] M Q) ∧
    (¬ (M 1 4) < (10 : Int32) →
      Q (-1) M)) : JE E (d) n_B_addPlace 0 [some (Sum.inr 1), some (Sum.inl x1), some (Sum.inl x2), some (Sum.inl x3), none, none, none, none, none] [] M Q :=
  JE_steps 1000 [20, 80, 119, 158] (by decide) h
theorem b_B_addPlace_20 {E : Env0} {dd : Nat} (x1 : Int32) (x2 : Int32) (x3 : Int32) (x4 : Int32) (x5 : Int32) (x6 : Int32) (o7 : Option V) (o8 : Option V) {M : Mem} {Q : Int32 → Mem → Prop} (h :
    ((M 1 4) ≤ x6 →
      CE E dd n_B_withAllBefore [Sum.inr 1, Sum.inl x4] M (fun r1 M1 =>
        ((r1 &&& x5) = 0 →
          CE E dd n_B_putPlace [Sum.inr 1, Sum.inl x1, Sum.inl x2, Sum.inl x3, Sum.inl x4, Sum.inl x5] M1 (fun r2 M2 =>
            Q r2 M2)) ∧
        (¬ (r1 &&& x5) = 0 →
          Q (-1) M1))) ∧
    (¬ (M 1 4) ≤ x6 →
      vp_in x6 10 ∧
      vp_in (M 8 (Int32.toNatClampNeg x6)) 8 ∧
      vp_in x3 8 ∧
      vp_in x6 10 ∧
      vp_in x6 10 ∧
      CE E dd n_D_way [Sum.inl (M 6 (Int32.toNatClampNeg x6)), Sum.inl (M 7 (Int32.toNatClampNeg x6)), Sum.inl x1, Sum.inl x2] M (fun r3 M3 =>
        (((M 2 (Int32.toNatClampNeg (M 8 (Int32.toNatClampNeg x6)))) + (M 2 (Int32.toNatClampNeg x3))) ≤ r3 →
          JE E (dd + 1) n_B_addPlace 80 [some (Sum.inr 1), some (Sum.inl x1), some (Sum.inl x2), some (Sum.inl x3), some (Sum.inl x4), some (Sum.inl x5), some (Sum.inl x6), some (Sum.inl ((M 2 (Int32.toNatClampNeg (M 8 (Int32.toNatClampNeg x6)))) + (M 2 (Int32.toNatClampNeg x3)))), some (Sum.inl r3)] [] M3 Q) ∧
        (¬ ((M 2 (Int32.toNatClampNeg (M 8 (Int32.toNatClampNeg x6)))) + (M 2 (Int32.toNatClampNeg x3))) ≤ r3 →
          Q (-1) M3)))) : JE E (dd + 1) n_B_addPlace 20 [some (Sum.inr 1), some (Sum.inl x1), some (Sum.inl x2), some (Sum.inl x3), some (Sum.inl x4), some (Sum.inl x5), some (Sum.inl x6), o7, o8] [] M Q :=
  JE_steps 1000 [20, 80, 119, 158] (by decide) h
theorem b_B_addPlace_80 {E : Env0} {d : Nat} (x1 : Int32) (x2 : Int32) (x3 : Int32) (x4 : Int32) (x5 : Int32) (x6 : Int32) (x7 : Int32) (x8 : Int32) {M : Mem} {Q : Int32 → Mem → Prop} (h :
    ((x7 + 2) < x8 →
      JE E d n_B_addPlace 119 [some (Sum.inr 1), some (Sum.inl x1), some (Sum.inl x2), some (Sum.inl x3), some (Sum.inl x4), some (Sum.inl x5), some (Sum.inl x6), some (Sum.inl x7), some (Sum.inl x8)] [] M Q) ∧
    (¬ (x7 + 2) < x8 →
      vp_in x6 10 ∧
      vp_in (M 8 (Int32.toNatClampNeg x6)) 8 ∧
      vp_in x3 8 ∧
      ((M 3 (Int32.toNatClampNeg x3)) ≤ (M 3 (Int32.toNatClampNeg (M 8 (Int32.toNatClampNeg x6)))) →
        JE E d n_B_addPlace 119 [some (Sum.inr 1), some (Sum.inl x1), some (Sum.inl x2), some (Sum.inl x3), some (Sum.inl x4), some (Sum.inl x5), some (Sum.inl x6), some (Sum.inl x7), some (Sum.inl x8)] [] M Q) ∧
      (¬ (M 3 (Int32.toNatClampNeg x3)) ≤ (M 3 (Int32.toNatClampNeg (M 8 (Int32.toNatClampNeg x6)))) →
        JE E d n_B_addPlace 119 [some (Sum.inr 1), some (Sum.inl x1), some (Sum.inl x2), some (Sum.inl x3), some (Sum.inl (x4 ||| (1 <<< (x6 &&& 31)))), some (Sum.inl x5), some (Sum.inl x6), some (Sum.inl x7), some (Sum.inl x8)] [] M Q))) : JE E (d) n_B_addPlace 80 [some (Sum.inr 1), some (Sum.inl x1), some (Sum.inl x2), some (Sum.inl x3), some (Sum.inl x4), some (Sum.inl x5), some (Sum.inl x6), some (Sum.inl x7), some (Sum.inl x8)] [] M Q :=
  JE_steps 1000 [20, 80, 119, 158] (by decide) h
theorem b_B_addPlace_119 {E : Env0} {d : Nat} (x1 : Int32) (x2 : Int32) (x3 : Int32) (x4 : Int32) (x5 : Int32) (x6 : Int32) (x7 : Int32) (x8 : Int32) {M : Mem} {Q : Int32 → Mem → Prop} (h :
    ((x7 + 2) < x8 →
      JE E d n_B_addPlace 158 [some (Sum.inr 1), some (Sum.inl x1), some (Sum.inl x2), some (Sum.inl x3), some (Sum.inl x4), some (Sum.inl x5), some (Sum.inl x6), some (Sum.inl x7), some (Sum.inl x8)] [] M Q) ∧
    (¬ (x7 + 2) < x8 →
      vp_in x6 10 ∧
      vp_in (M 8 (Int32.toNatClampNeg x6)) 8 ∧
      vp_in x3 8 ∧
      ((M 3 (Int32.toNatClampNeg (M 8 (Int32.toNatClampNeg x6)))) ≤ (M 3 (Int32.toNatClampNeg x3)) →
        JE E d n_B_addPlace 158 [some (Sum.inr 1), some (Sum.inl x1), some (Sum.inl x2), some (Sum.inl x3), some (Sum.inl x4), some (Sum.inl x5), some (Sum.inl x6), some (Sum.inl x7), some (Sum.inl x8)] [] M Q) ∧
      (¬ (M 3 (Int32.toNatClampNeg (M 8 (Int32.toNatClampNeg x6)))) ≤ (M 3 (Int32.toNatClampNeg x3)) →
        JE E d n_B_addPlace 158 [some (Sum.inr 1), some (Sum.inl x1), some (Sum.inl x2), some (Sum.inl x3), some (Sum.inl x4), some (Sum.inl (x5 ||| (1 <<< (x6 &&& 31)))), some (Sum.inl x6), some (Sum.inl x7), some (Sum.inl x8)] [] M Q))) : JE E (d) n_B_addPlace 119 [some (Sum.inr 1), some (Sum.inl x1), some (Sum.inl x2), some (Sum.inl x3), some (Sum.inl x4), some (Sum.inl x5), some (Sum.inl x6), some (Sum.inl x7), some (Sum.inl x8)] [] M Q :=
  JE_steps 1000 [20, 80, 119, 158] (by decide) h
theorem b_B_addPlace_158 {E : Env0} {d : Nat} (x1 : Int32) (x2 : Int32) (x3 : Int32) (x4 : Int32) (x5 : Int32) (x6 : Int32) (o7 : Option V) (o8 : Option V) {M : Mem} {Q : Int32 → Mem → Prop} (h :
    JE E d n_B_addPlace 20 [some (Sum.inr 1), some (Sum.inl x1), some (Sum.inl x2), some (Sum.inl x3), some (Sum.inl x4), some (Sum.inl x5), some (Sum.inl (x6 + 1)), o7, o8] [] M Q) : JE E (d) n_B_addPlace 158 [some (Sum.inr 1), some (Sum.inl x1), some (Sum.inl x2), some (Sum.inl x3), some (Sum.inl x4), some (Sum.inl x5), some (Sum.inl x6), o7, o8] [] M Q :=
  JE_steps 1000 [20, 80, 119, 158] (by decide) h
theorem b_B_putPlace_0 {E : Env0} {d : Nat} (x1 : Int32) (x2 : Int32) (x3 : Int32) (x4 : Int32) (x5 : Int32) {M : Mem} {Q : Int32 → Mem → Prop} (h :
    vp_in (M 1 4) 10 ∧ 
    vp_in (M 1 4) 10 ∧ 
    vp_in (M 1 4) 10 ∧ 
    vp_in (M 1 4) 10 ∧ 
    JE E d n_B_putPlace 52 [some (Sum.inr 1), some (Sum.inl x1), some (Sum.inl x2), some (Sum.inl x3), some (Sum.inl x4), some (Sum.inl x5), some (Sum.inl (M 1 4)), some (Sum.inl 0)] [] (mset (mset (mset (mset (mset M 1 4 ((M 1 4) + 1)) 6 (Int32.toNatClampNeg (M 1 4)) x1) 7 (Int32.toNatClampNeg (M 1 4)) x2) 8 (Int32.toNatClampNeg (M 1 4)) x3) 9 (Int32.toNatClampNeg (M 1 4)) x4) Q) : JE E (d) n_B_putPlace 0 [some (Sum.inr 1), some (Sum.inl x1), some (Sum.inl x2), some (Sum.inl x3), some (Sum.inl x4), some (Sum.inl x5), none, none] [] M Q :=
  JE_steps 1000 [52] (by decide) h
theorem b_B_putPlace_52 {E : Env0} {dd : Nat} (o1 : Option V) (o2 : Option V) (o3 : Option V) (o4 : Option V) (x5 : Int32) (x6 : Int32) (x7 : Int32) {M : Mem} {Q : Int32 → Mem → Prop} (h :
    (x6 ≤ x7 →
      Q x6 M) ∧
    (¬ x6 ≤ x7 →
      CE E dd n_D_hasBit [Sum.inl x5, Sum.inl x7] M (fun r1 M1 =>
        (r1 = 0 →
          JE E (dd + 1) n_B_putPlace 52 [some (Sum.inr 1), o1, o2, o3, o4, some (Sum.inl x5), some (Sum.inl x6), some (Sum.inl (x7 + 1))] [] M1 Q) ∧
        (¬ r1 = 0 →
          vp_in x7 10 ∧
          vp_in x7 10 ∧ 
          JE E (dd + 1) n_B_putPlace 52 [some (Sum.inr 1), o1, o2, o3, o4, some (Sum.inl x5), some (Sum.inl x6), some (Sum.inl (x7 + 1))] [] (mset M1 9 (Int32.toNatClampNeg x7) ((M1 9 (Int32.toNatClampNeg x7)) ||| (1 <<< (x6 &&& 31)))) Q)))) : JE E (dd + 1) n_B_putPlace 52 [some (Sum.inr 1), o1, o2, o3, o4, some (Sum.inl x5), some (Sum.inl x6), some (Sum.inl x7)] [] M Q :=
  JE_steps 1000 [52] (by decide) h
theorem b_B_addLate_0 {E : Env0} {dd : Nat} (x1 : Int32) (x2 : Int32) {M : Mem} {Q : Int32 → Mem → Prop} (h :
    vp_in x1 10 ∧
    CE E dd n_D_hasBit [Sum.inl (M 10 (Int32.toNatClampNeg x1)), Sum.inl x2] M (fun r1 M1 =>
      (¬ r1 = 0 →
        Z01 0 ∧ Q 0 M1) ∧
      (r1 = 0 →
        CE E dd n_B_withAllBefore [Sum.inr 1, Sum.inl (1 <<< (x2 &&& 31))] M1 (fun r2 M2 =>
          CE E dd n_D_hasBit [Sum.inl r2, Sum.inl x1] M2 (fun r3 M3 =>
            (r3 = 0 →
              vp_in x1 10 ∧
              vp_in x1 10 ∧ 
              vp_in x1 10 ∧
              vp_in x1 10 ∧ 
              Z01 1 ∧ Q 1 (mset (mset M3 10 (Int32.toNatClampNeg x1) ((M3 10 (Int32.toNatClampNeg x1)) ||| (1 <<< (x2 &&& 31)))) 9 (Int32.toNatClampNeg x1) ((M3 9 (Int32.toNatClampNeg x1)) ||| (1 <<< (x2 &&& 31))))) ∧
            (¬ r3 = 0 →
              Z01 0 ∧ Q 0 M3)))))) : JE E (dd + 1) n_B_addLate 0 [some (Sum.inr 1), some (Sum.inl x1), some (Sum.inl x2)] [] M Q :=
  JE_steps 1000 [] (by decide) h
theorem b_B_withAllBefore_0 {E : Env0} {d : Nat} (x1 : Int32) {M : Mem} {Q : Int32 → Mem → Prop} (h :
    JE E d n_B_withAllBefore 4 [some (Sum.inr 1), some (Sum.inl x1), some (Sum.inl x1), some (Sum.inl 0), none, none] [] M Q) : JE E (d) n_B_withAllBefore 0 [some (Sum.inr 1), some (Sum.inl x1), none, none, none, none] [] M Q :=
  JE_steps 1000 [4, 16] (by decide) h
theorem b_B_withAllBefore_4 {E : Env0} {d : Nat} (o1 : Option V) (x2 : Int32) (x3 : Int32) (o4 : Option V) (o5 : Option V) {M : Mem} {Q : Int32 → Mem → Prop} (h :
    ((10 : Int32) ≤ x3 →
      Q x2 M) ∧
    (¬ (10 : Int32) ≤ x3 →
      JE E d n_B_withAllBefore 16 [some (Sum.inr 1), o1, some (Sum.inl x2), some (Sum.inl x3), some (Sum.inl x2), some (Sum.inl 0)] [] M Q)) : JE E (d) n_B_withAllBefore 4 [some (Sum.inr 1), o1, some (Sum.inl x2), some (Sum.inl x3), o4, o5] [] M Q :=
  JE_steps 1000 [4, 16] (by decide) h
theorem b_B_withAllBefore_16 {E : Env0} {dd : Nat} (o1 : Option V) (x2 : Int32) (x3 : Int32) (x4 : Int32) (x5 : Int32) {M : Mem} {Q : Int32 → Mem → Prop} (h :
    ((M 1 4) ≤ x5 →
      JE E (dd + 1) n_B_withAllBefore 4 [some (Sum.inr 1), o1, some (Sum.inl x4), some (Sum.inl (x3 + 1)), some (Sum.inl x4), some (Sum.inl x5)] [] M Q) ∧
    (¬ (M 1 4) ≤ x5 →
      CE E dd n_D_hasBit [Sum.inl x2, Sum.inl x5] M (fun r1 M1 =>
        (r1 = 0 →
          JE E (dd + 1) n_B_withAllBefore 16 [some (Sum.inr 1), o1, some (Sum.inl x2), some (Sum.inl x3), some (Sum.inl x4), some (Sum.inl (x5 + 1))] [] M1 Q) ∧
        (¬ r1 = 0 →
          vp_in x5 10 ∧
          JE E (dd + 1) n_B_withAllBefore 16 [some (Sum.inr 1), o1, some (Sum.inl x2), some (Sum.inl x3), some (Sum.inl (x4 ||| (M1 9 (Int32.toNatClampNeg x5)))), some (Sum.inl (x5 + 1))] [] M1 Q)))) : JE E (dd + 1) n_B_withAllBefore 16 [some (Sum.inr 1), o1, some (Sum.inl x2), some (Sum.inl x3), some (Sum.inl x4), some (Sum.inl x5)] [] M Q :=
  JE_steps 1000 [4, 16] (by decide) h
theorem b_B_pairs_0 {E : Env0} {d : Nat}  {M : Mem} {Q : Int32 → Mem → Prop} (h :
    JE E d n_B_pairs 4 [some (Sum.inr 1), some (Sum.inl 0), some (Sum.inl 0)] [] M Q) : JE E (d) n_B_pairs 0 [some (Sum.inr 1), none, none] [] M Q :=
  JE_steps 1000 [4] (by decide) h
theorem b_B_pairs_4 {E : Env0} {dd : Nat} (x1 : Int32) (x2 : Int32) {M : Mem} {Q : Int32 → Mem → Prop} (h :
    ((M 1 4) ≤ x2 →
      Q x1 M) ∧
    (¬ (M 1 4) ≤ x2 →
      vp_in x2 10 ∧
      CE E dd n_JI_bitCount [Sum.inl (M 9 (Int32.toNatClampNeg x2))] M (fun r1 M1 =>
        JE E (dd + 1) n_B_pairs 4 [some (Sum.inr 1), some (Sum.inl (x1 + r1)), some (Sum.inl (x2 + 1))] [] M1 Q))) : JE E (dd + 1) n_B_pairs 4 [some (Sum.inr 1), some (Sum.inl x1), some (Sum.inl x2)] [] M Q :=
  JE_steps 1000 [4] (by decide) h
theorem b_H_restart_18_0 {E : Env0} {d : Nat}  {M : Mem} {Q : Int32 → Mem → Prop} (h :
    Q 0 (mset (mset (mset (mset M 18 0 0) 18 1 0) 18 2 0) 18 3 0)) : JE E (d) n_H_restart 0 [some (Sum.inr 18)] [] M Q :=
  JE_steps 1000 [] (by decide) h
theorem b_H_restart_27_0 {E : Env0} {d : Nat}  {M : Mem} {Q : Int32 → Mem → Prop} (h :
    Q 0 (mset (mset (mset (mset M 27 0 0) 27 1 0) 27 2 0) 27 3 0)) : JE E (d) n_H_restart 0 [some (Sum.inr 27)] [] M Q :=
  JE_steps 1000 [] (by decide) h
theorem b_H_spend_18_0 {E : Env0} {d : Nat} (x1 : Int32) {M : Mem} {Q : Int32 → Mem → Prop} (h :
    Q 0 (mset M 18 3 ((M 18 3) + x1))) : JE E (d) n_H_spend 0 [some (Sum.inr 18), some (Sum.inl x1)] [] M Q :=
  JE_steps 1000 [] (by decide) h
theorem b_H_spend_27_0 {E : Env0} {d : Nat} (x1 : Int32) {M : Mem} {Q : Int32 → Mem → Prop} (h :
    Q 0 (mset M 27 3 ((M 27 3) + x1))) : JE E (d) n_H_spend 0 [some (Sum.inr 27), some (Sum.inl x1)] [] M Q :=
  JE_steps 1000 [] (by decide) h
theorem b_H_moveTo_18_0 {E : Env0} {dd : Nat} (x1 : Int32) (x2 : Int32) {M : Mem} {Q : Int32 → Mem → Prop} (h :
    CE E dd n_D_way [Sum.inl (M 18 0), Sum.inl (M 18 1), Sum.inl x1, Sum.inl x2] M (fun r1 M1 =>
      Q 0 (mset (mset (mset M1 18 3 ((M 18 3) + r1)) 18 0 x1) 18 1 x2))) : JE E (dd + 1) n_H_moveTo 0 [some (Sum.inr 18), some (Sum.inl x1), some (Sum.inl x2)] [] M Q :=
  JE_steps 1000 [] (by decide) h
theorem b_H_moveTo_27_0 {E : Env0} {dd : Nat} (x1 : Int32) (x2 : Int32) {M : Mem} {Q : Int32 → Mem → Prop} (h :
    CE E dd n_D_way [Sum.inl (M 27 0), Sum.inl (M 27 1), Sum.inl x1, Sum.inl x2] M (fun r1 M1 =>
      Q 0 (mset (mset (mset M1 27 3 ((M 27 3) + r1)) 27 0 x1) 27 1 x2))) : JE E (dd + 1) n_H_moveTo 0 [some (Sum.inr 27), some (Sum.inl x1), some (Sum.inl x2)] [] M Q :=
  JE_steps 1000 [] (by decide) h
theorem b_H_bear_18_0 {E : Env0} {d : Nat} (x1 : Int32) (x2 : Int32) {M : Mem} {Q : Int32 → Mem → Prop} (h :
    ((M 18 2) = x1 →
      Q 0 M) ∧
    (¬ (M 18 2) = x1 →
      Q 0 (mset (mset M 18 2 x1) 18 3 ((M 18 3) + x2)))) : JE E (d) n_H_bear 0 [some (Sum.inr 18), some (Sum.inl x1), some (Sum.inl x2)] [] M Q :=
  JE_steps 1000 [] (by decide) h
theorem b_H_bear_27_0 {E : Env0} {d : Nat} (x1 : Int32) (x2 : Int32) {M : Mem} {Q : Int32 → Mem → Prop} (h :
    ((M 27 2) = x1 →
      Q 0 M) ∧
    (¬ (M 27 2) = x1 →
      Q 0 (mset (mset M 27 2 x1) 27 3 ((M 27 3) + x2)))) : JE E (d) n_H_bear 0 [some (Sum.inr 27), some (Sum.inl x1), some (Sum.inl x2)] [] M Q :=
  JE_steps 1000 [] (by decide) h
theorem b_K_isGood_0 {E : Env0} {dd : Nat}  {M : Mem} {Q : Int32 → Mem → Prop} (h :
    (¬ (M 15 1) = (M 1 4) →
      Z01 0 ∧ Q 0 M) ∧
    ((M 15 1) = (M 1 4) →
      CE E dd n_K_isInOrder [Sum.inr 17] M (fun r1 M1 =>
        (r1 = 0 →
          Z01 0 ∧ Q 0 M1) ∧
        (¬ r1 = 0 →
          CE E dd n_K_hasGoodTours [Sum.inr 17] M1 (fun r2 M2 =>
            (r2 = 0 →
              Z01 0 ∧ Q 0 M2) ∧
            (¬ r2 = 0 →
              CE E dd n_K_hasAllFeeders [Sum.inr 17] M2 (fun r3 M3 =>
                (r3 = 0 →
                  Z01 0 ∧ Q 0 M3) ∧
                (¬ r3 = 0 →
                  Z01 1 ∧ Q 1 M3)))))))) : JE E (dd + 1) n_K_isGood 0 [some (Sum.inr 17)] [] M Q :=
  JE_steps 1000 [] (by decide) h
theorem b_K_isInOrder_0 {E : Env0} {d : Nat}  {M : Mem} {Q : Int32 → Mem → Prop} (h :
    JE E d n_K_isInOrder 4 [some (Sum.inr 17), some (Sum.inl 0), some (Sum.inl 0), none] [] M Q) : JE E (d) n_K_isInOrder 0 [some (Sum.inr 17), none, none, none] [] M Q :=
  JE_steps 1000 [4] (by decide) h
theorem b_K_isInOrder_4 {E : Env0} {dd : Nat} (x1 : Int32) (x2 : Int32) (o3 : Option V) {M : Mem} {Q : Int32 → Mem → Prop} (h :
    ((M 15 1) ≤ x2 →
      Z01 1 ∧ Q 1 M) ∧
    (¬ (M 15 1) ≤ x2 →
      CE E dd n_R_placeAt [Sum.inr 15, Sum.inl x2] M (fun r1 M1 =>
        vp_in r1 10 ∧
        (((M1 9 (Int32.toNatClampNeg r1)) &&& (x1 ^^^ (-1))) = 0 →
          JE E (dd + 1) n_K_isInOrder 4 [some (Sum.inr 17), some (Sum.inl (x1 ||| (1 <<< (r1 &&& 31)))), some (Sum.inl (x2 + 1)), some (Sum.inl r1)] [] M1 Q) ∧
        (¬ ((M1 9 (Int32.toNatClampNeg r1)) &&& (x1 ^^^ (-1))) = 0 →
          Z01 0 ∧ Q 0 M1)))) : JE E (dd + 1) n_K_isInOrder 4 [some (Sum.inr 17), some (Sum.inl x1), some (Sum.inl x2), o3] [] M Q :=
  JE_steps 1000 [4] (by decide) h
theorem b_K_hasGoodTours_0 {E : Env0} {d : Nat}  {M : Mem} {Q : Int32 → Mem → Prop} (h :
    JE E d n_K_hasGoodTours 4 [some (Sum.inr 17), some (Sum.inl 0), some (Sum.inl 0)] [] M Q) : JE E (d) n_K_hasGoodTours 0 [some (Sum.inr 17), none, none] [] M Q :=
  JE_steps 1000 [4] (by decide) h
theorem b_K_hasGoodTours_4 {E : Env0} {dd : Nat} (x1 : Int32) (x2 : Int32) {M : Mem} {Q : Int32 → Mem → Prop} (h :
    ((M 15 1) ≤ x2 →
      Z01 1 ∧ Q 1 M) ∧
    (¬ (M 15 1) ≤ x2 →
      (x2 = 0 →
        JE E (dd + 1) n_K_hasGoodTours 4 [some (Sum.inr 17), some (Sum.inl 1), some (Sum.inl (x2 + 1))] [] M Q) ∧
      (¬ x2 = 0 →
        CE E dd n_R_beginsAt [Sum.inr 15, Sum.inl x2] M (fun r1 M1 =>
          (r1 = 0 →
            ((M1 14 0) < (x1 + 1) →
              Z01 0 ∧ Q 0 M1) ∧
            (¬ (M1 14 0) < (x1 + 1) →
              CE E dd n_R_placeAt [Sum.inr 15, Sum.inl x2] M1 (fun r2 M2 =>
                CE E dd n_B_nozzleOf [Sum.inr 1, Sum.inl r2] M2 (fun r3 M3 =>
                  CE E dd n_R_placeAt [Sum.inr 15, Sum.inl (x2 - 1)] M3 (fun r4 M4 =>
                    CE E dd n_B_nozzleOf [Sum.inr 1, Sum.inl r4] M4 (fun r5 M5 =>
                      (r3 = r5 →
                        JE E (dd + 1) n_K_hasGoodTours 4 [some (Sum.inr 17), some (Sum.inl (x1 + 1)), some (Sum.inl (x2 + 1))] [] M5 Q) ∧
                      (¬ r3 = r5 →
                        Z01 0 ∧ Q 0 M5))))))) ∧
          (¬ r1 = 0 →
            JE E (dd + 1) n_K_hasGoodTours 4 [some (Sum.inr 17), some (Sum.inl 1), some (Sum.inl (x2 + 1))] [] M1 Q))))) : JE E (dd + 1) n_K_hasGoodTours 4 [some (Sum.inr 17), some (Sum.inl x1), some (Sum.inl x2)] [] M Q :=
  JE_steps 1000 [4] (by decide) h
theorem b_K_hasAllFeeders_0 {E : Env0} {d : Nat}  {M : Mem} {Q : Int32 → Mem → Prop} (h :
    JE E d n_K_hasAllFeeders 2 [some (Sum.inr 17), some (Sum.inl 0)] [] M Q) : JE E (d) n_K_hasAllFeeders 0 [some (Sum.inr 17), none] [] M Q :=
  JE_steps 1000 [2] (by decide) h
theorem b_K_hasAllFeeders_2 {E : Env0} {dd : Nat} (x1 : Int32) {M : Mem} {Q : Int32 → Mem → Prop} (h :
    ((M 1 4) ≤ x1 →
      Z01 1 ∧ Q 1 M) ∧
    (¬ (M 1 4) ≤ x1 →
      vp_in x1 10 ∧
      CE E dd n_S_lowestOf [Sum.inr 11, Sum.inl (M 8 (Int32.toNatClampNeg x1))] M (fun r1 M1 =>
        (¬ r1 = ((-1) : Int32) →
          JE E (dd + 1) n_K_hasAllFeeders 2 [some (Sum.inr 17), some (Sum.inl (x1 + 1))] [] M1 Q) ∧
        (r1 = ((-1) : Int32) →
          Z01 0 ∧ Q 0 M1)))) : JE E (dd + 1) n_K_hasAllFeeders 2 [some (Sum.inr 17), some (Sum.inl x1)] [] M Q :=
  JE_steps 1000 [2] (by decide) h
theorem b_K_reckon_0 {E : Env0} {dd : Nat}  {M : Mem} {Q : Int32 → Mem → Prop} (h :
    CE E dd n_H_restart [Sum.inr 18] M (fun r1 M1 =>
      JE E (dd + 1) n_K_reckon 9 [some (Sum.inr 17), some (Sum.inl 0)] [] M1 Q)) : JE E (dd + 1) n_K_reckon 0 [some (Sum.inr 17), none] [] M Q :=
  JE_steps 1000 [9] (by decide) h
theorem b_K_reckon_9 {E : Env0} {dd : Nat} (x1 : Int32) {M : Mem} {Q : Int32 → Mem → Prop} (h :
    ((M 15 1) ≤ x1 →
      Q (M 18 3) M) ∧
    (¬ (M 15 1) ≤ x1 →
      CE E dd n_R_beginsAt [Sum.inr 15, Sum.inl x1] M (fun r1 M1 =>
        (r1 = 0 →
          JE E (dd + 1) n_K_reckon 9 [some (Sum.inr 17), some (Sum.inl (x1 + 1))] [] M1 Q) ∧
        (¬ r1 = 0 →
          CE E dd n_R_endOfTour [Sum.inr 15, Sum.inl x1] M1 (fun r2 M2 =>
            CE E dd n_K_reckonTour [Sum.inr 17, Sum.inl x1, Sum.inl r2] M2 (fun r3 M3 =>
              JE E (dd + 1) n_K_reckon 9 [some (Sum.inr 17), some (Sum.inl (x1 + 1))] [] M3 Q)))))) : JE E (dd + 1) n_K_reckon 9 [some (Sum.inr 17), some (Sum.inl x1)] [] M Q :=
  JE_steps 1000 [9] (by decide) h
theorem b_K_reckonTour_0 {E : Env0} {dd : Nat} (x1 : Int32) (x2 : Int32) {M : Mem} {Q : Int32 → Mem → Prop} (h :
    CE E dd n_R_placeAt [Sum.inr 15, Sum.inl x1] M (fun r1 M1 =>
      CE E dd n_B_nozzleOf [Sum.inr 1, Sum.inl r1] M1 (fun r2 M2 =>
        CE E dd n_H_bear [Sum.inr 18, Sum.inl r2, Sum.inl (M2 14 4)] M2 (fun r3 M3 =>
          CE E dd n_K_noteWants [Sum.inr 17, Sum.inl x1, Sum.inl x2] M3 (fun r4 M4 =>
            JE E (dd + 1) n_K_reckonTour 39 [some (Sum.inr 17), some (Sum.inl x1), some (Sum.inl x2), some (Sum.inl r4), some (Sum.inl 0), none] [] M4 Q))))) : JE E (dd + 1) n_K_reckonTour 0 [some (Sum.inr 17), some (Sum.inl x1), some (Sum.inl x2), none, none, none] [] M Q :=
  JE_steps 1000 [39, 131] (by decide) h
theorem b_K_reckonTour_39 {E : Env0} {dd : Nat} (x1 : Int32) (x2 : Int32) (x3 : Int32) (x4 : Int32) (o5 : Option V) {M : Mem} {Q : Int32 → Mem → Prop} (h :
    ((8 : Int32) ≤ x4 →
      (x3 ≤ 0 →
        JE E (dd + 1) n_K_reckonTour 131 [some (Sum.inr 17), some (Sum.inl x1), some (Sum.inl x2), some (Sum.inl x3), some (Sum.inl x1), o5] [] M Q) ∧
      (¬ x3 ≤ 0 →
        CE E dd n_H_moveTo [Sum.inr 18, Sum.inl 199, Sum.inl 0] M (fun r1 M1 =>
          CE E dd n_H_spend [Sum.inr 18, Sum.inl (x3 * (M1 14 3))] M1 (fun r2 M2 =>
            JE E (dd + 1) n_K_reckonTour 131 [some (Sum.inr 17), some (Sum.inl x1), some (Sum.inl x2), some (Sum.inl x3), some (Sum.inl x1), o5] [] M2 Q)))) ∧
    (¬ (8 : Int32) ≤ x4 →
      vp_in x4 8 ∧
      ((M 19 (Int32.toNatClampNeg x4)) ≤ 0 →
        JE E (dd + 1) n_K_reckonTour 39 [some (Sum.inr 17), some (Sum.inl x1), some (Sum.inl x2), some (Sum.inl x3), some (Sum.inl (x4 + 1)), o5] [] M Q) ∧
      (¬ (M 19 (Int32.toNatClampNeg x4)) ≤ 0 →
        CE E dd n_H_moveTo [Sum.inr 18, Sum.inl (20 * x4), Sum.inl 0] M (fun r3 M3 =>
          vp_in x4 8 ∧
          CE E dd n_H_spend [Sum.inr 18, Sum.inl ((M3 19 (Int32.toNatClampNeg x4)) * (M3 14 1))] M3 (fun r4 M4 =>
            JE E (dd + 1) n_K_reckonTour 39 [some (Sum.inr 17), some (Sum.inl x1), some (Sum.inl x2), some (Sum.inl x3), some (Sum.inl (x4 + 1)), o5] [] M4 Q))))) : JE E (dd + 1) n_K_reckonTour 39 [some (Sum.inr 17), some (Sum.inl x1), some (Sum.inl x2), some (Sum.inl x3), some (Sum.inl x4), o5] [] M Q :=
  JE_steps 1000 [39, 131] (by decide) h
theorem b_K_reckonTour_131 {E : Env0} {dd : Nat} (o1 : Option V) (x2 : Int32) (o3 : Option V) (x4 : Int32) (o5 : Option V) {M : Mem} {Q : Int32 → Mem → Prop} (h :
    (x2 ≤ x4 →
      Q 0 M) ∧
    (¬ x2 ≤ x4 →
      CE E dd n_R_placeAt [Sum.inr 15, Sum.inl x4] M (fun r1 M1 =>
        vp_in r1 10 ∧
        vp_in r1 10 ∧
        CE E dd n_H_moveTo [Sum.inr 18, Sum.inl (M1 6 (Int32.toNatClampNeg r1)), Sum.inl (M1 7 (Int32.toNatClampNeg r1))] M1 (fun r2 M2 =>
          CE E dd n_H_spend [Sum.inr 18, Sum.inl (M2 14 2)] M2 (fun r3 M3 =>
            JE E (dd + 1) n_K_reckonTour 131 [some (Sum.inr 17), o1, some (Sum.inl x2), o3, some (Sum.inl (x4 + 1)), some (Sum.inl r1)] [] M3 Q))))) : JE E (dd + 1) n_K_reckonTour 131 [some (Sum.inr 17), o1, some (Sum.inl x2), o3, some (Sum.inl x4), o5] [] M Q :=
  JE_steps 1000 [39, 131] (by decide) h
theorem b_K_noteWants_0 {E : Env0} {dd : Nat} (x1 : Int32) (x2 : Int32) {M : Mem} {Q : Int32 → Mem → Prop} (h :
    CE E dd n_JA_fill [Sum.inr 19, Sum.inl 0] M (fun r1 M1 =>
      JE E (dd + 1) n_K_noteWants 13 [some (Sum.inr 17), some (Sum.inl x1), some (Sum.inl x2), some (Sum.inl 0), some (Sum.inl x1), none, none] [] M1 Q)) : JE E (dd + 1) n_K_noteWants 0 [some (Sum.inr 17), some (Sum.inl x1), some (Sum.inl x2), none, none, none, none] [] M Q :=
  JE_steps 1000 [13] (by decide) h
theorem b_K_noteWants_13 {E : Env0} {dd : Nat} (o1 : Option V) (x2 : Int32) (x3 : Int32) (x4 : Int32) (o5 : Option V) (o6 : Option V) {M : Mem} {Q : Int32 → Mem → Prop} (h :
    (x2 ≤ x4 →
      Q x3 M) ∧
    (¬ x2 ≤ x4 →
      CE E dd n_R_placeAt [Sum.inr 15, Sum.inl x4] M (fun r1 M1 =>
        vp_in r1 10 ∧
        CE E dd n_S_lowestOf [Sum.inr 11, Sum.inl (M1 8 (Int32.toNatClampNeg r1))] M1 (fun r2 M2 =>
          (r2 = ((-1) : Int32) →
            CE E dd n_B_isFine [Sum.inr 1, Sum.inl r1] M2 (fun r3 M3 =>
              (r3 = 0 →
                JE E (dd + 1) n_K_noteWants 13 [some (Sum.inr 17), o1, some (Sum.inl x2), some (Sum.inl x3), some (Sum.inl (x4 + 1)), some (Sum.inl r1), some (Sum.inl r2)] [] M3 Q) ∧
              (¬ r3 = 0 →
                JE E (dd + 1) n_K_noteWants 13 [some (Sum.inr 17), o1, some (Sum.inl x2), some (Sum.inl (x3 + 1)), some (Sum.inl (x4 + 1)), some (Sum.inl r1), some (Sum.inl r2)] [] M3 Q))) ∧
          (¬ r2 = ((-1) : Int32) →
            vp_in r2 8 ∧
            vp_in r2 8 ∧ 
            CE E dd n_B_isFine [Sum.inr 1, Sum.inl r1] (mset M2 19 (Int32.toNatClampNeg r2) ((M2 19 (Int32.toNatClampNeg r2)) + 1)) (fun r4 M4 =>
              (r4 = 0 →
                JE E (dd + 1) n_K_noteWants 13 [some (Sum.inr 17), o1, some (Sum.inl x2), some (Sum.inl x3), some (Sum.inl (x4 + 1)), some (Sum.inl r1), some (Sum.inl r2)] [] M4 Q) ∧
              (¬ r4 = 0 →
                JE E (dd + 1) n_K_noteWants 13 [some (Sum.inr 17), o1, some (Sum.inl x2), some (Sum.inl (x3 + 1)), some (Sum.inl (x4 + 1)), some (Sum.inl r1), some (Sum.inl r2)] [] M4 Q))))))) : JE E (dd + 1) n_K_noteWants 13 [some (Sum.inr 17), o1, some (Sum.inl x2), some (Sum.inl x3), some (Sum.inl x4), o5, o6] [] M Q :=
  JE_steps 1000 [13] (by decide) h
theorem b_K_makeBestExchange_0 {E : Env0} {dd : Nat}  {M : Mem} {Q : Int32 → Mem → Prop} (h :
    CE E dd n_K_reckon [Sum.inr 17] M (fun r1 M1 =>
      JE E (dd + 1) n_K_makeBestExchange 12 [some (Sum.inr 17), some (Sum.inl r1), some (Sum.inl (-1)), some (Sum.inl (-1)), some (Sum.inl 0), none, none] [] M1 Q)) : JE E (dd + 1) n_K_makeBestExchange 0 [some (Sum.inr 17), none, none, none, none, none, none] [] M Q :=
  JE_steps 1000 [12, 25] (by decide) h
theorem b_K_makeBestExchange_12 {E : Env0} {dd : Nat} (x1 : Int32) (x2 : Int32) (x3 : Int32) (x4 : Int32) (o5 : Option V) (o6 : Option V) {M : Mem} {Q : Int32 → Mem → Prop} (h :
    ((8 : Int32) ≤ x4 →
      (¬ x2 = ((-1) : Int32) →
        CE E dd n_S_exchange [Sum.inr 11, Sum.inl x2, Sum.inl x3] M (fun r1 M1 =>
          Z01 1 ∧ Q 1 M1)) ∧
      (x2 = ((-1) : Int32) →
        Z01 0 ∧ Q 0 M)) ∧
    (¬ (8 : Int32) ≤ x4 →
      JE E (dd + 1) n_K_makeBestExchange 25 [some (Sum.inr 17), some (Sum.inl x1), some (Sum.inl x2), some (Sum.inl x3), some (Sum.inl x4), some (Sum.inl (x4 + 1)), o6] [] M Q)) : JE E (dd + 1) n_K_makeBestExchange 12 [some (Sum.inr 17), some (Sum.inl x1), some (Sum.inl x2), some (Sum.inl x3), some (Sum.inl x4), o5, o6] [] M Q :=
  JE_steps 1000 [12, 25] (by decide) h
theorem b_K_makeBestExchange_25 {E : Env0} {dd : Nat} (x1 : Int32) (x2 : Int32) (x3 : Int32) (x4 : Int32) (x5 : Int32) (o6 : Option V) {M : Mem} {Q : Int32 → Mem → Prop} (h :
    ((8 : Int32) ≤ x5 →
      JE E (dd + 1) n_K_makeBestExchange 12 [some (Sum.inr 17), some (Sum.inl x1), some (Sum.inl x2), some (Sum.inl x3), some (Sum.inl (x4 + 1)), some (Sum.inl x5), o6] [] M Q) ∧
    (¬ (8 : Int32) ≤ x5 →
      CE E dd n_S_exchange [Sum.inr 11, Sum.inl x4, Sum.inl x5] M (fun r1 M1 =>
        CE E dd n_K_reckon [Sum.inr 17] M1 (fun r2 M2 =>
          CE E dd n_S_exchange [Sum.inr 11, Sum.inl x4, Sum.inl x5] M2 (fun r3 M3 =>
            (x1 ≤ r2 →
              JE E (dd + 1) n_K_makeBestExchange 25 [some (Sum.inr 17), some (Sum.inl x1), some (Sum.inl x2), some (Sum.inl x3), some (Sum.inl x4), some (Sum.inl (x5 + 1)), some (Sum.inl r2)] [] M3 Q) ∧
            (¬ x1 ≤ r2 →
              JE E (dd + 1) n_K_makeBestExchange 25 [some (Sum.inr 17), some (Sum.inl r2), some (Sum.inl x4), some (Sum.inl x5), some (Sum.inl x4), some (Sum.inl (x5 + 1)), some (Sum.inl r2)] [] M3 Q)))))) : JE E (dd + 1) n_K_makeBestExchange 25 [some (Sum.inr 17), some (Sum.inl x1), some (Sum.inl x2), some (Sum.inl x3), some (Sum.inl x4), some (Sum.inl x5), o6] [] M Q :=
  JE_steps 1000 [12, 25] (by decide) h
theorem b_R_empty_0 {E : Env0} {d : Nat}  {M : Mem} {Q : Int32 → Mem → Prop} (h :
    Q 0 (mset (mset M 15 1 0) 15 2 0)) : JE E (d) n_R_empty 0 [some (Sum.inr 15)] [] M Q :=
  JE_steps 1000 [] (by decide) h
theorem b_R_holds_0 {E : Env0} {dd : Nat} (x1 : Int32) {M : Mem} {Q : Int32 → Mem → Prop} (h :
    CE E dd n_D_hasBit [Sum.inl (M 15 2), Sum.inl x1] M (fun r1 M1 =>
      Z01 r1 ∧ Q r1 M1)) : JE E (dd + 1) n_R_holds 0 [some (Sum.inr 15), some (Sum.inl x1)] [] M Q :=
  JE_steps 1000 [] (by decide) h
theorem b_R_append_0 {E : Env0} {d : Nat} (x1 : Int32) (x2 : Int32) {M : Mem} {Q : Int32 → Mem → Prop} (h :
    ((M 15 1) < (10 : Int32) →
      (¬ x2 = 0 →
        vp_in (M 15 1) 10 ∧ 
        Q 0 (mset (mset (mset M 16 (Int32.toNatClampNeg (M 15 1)) (x1 + 16)) 15 2 ((M 15 2) ||| (1 <<< (x1 &&& 31)))) 15 1 ((M 15 1) + 1))) ∧
      (x2 = 0 →
        (¬ (M 15 1) = 0 →
          vp_in (M 15 1) 10 ∧ 
          Q 0 (mset (mset (mset M 16 (Int32.toNatClampNeg (M 15 1)) x1) 15 2 ((M 15 2) ||| (1 <<< (x1 &&& 31)))) 15 1 ((M 15 1) + 1))) ∧
        ((M 15 1) = 0 →
          vp_in (M 15 1) 10 ∧ 
          Q 0 (mset (mset (mset M 16 (Int32.toNatClampNeg (M 15 1)) (x1 + 16)) 15 2 ((M 15 2) ||| (1 <<< (x1 &&& 31)))) 15 1 ((M 15 1) + 1))))) ∧
    (¬ (M 15 1) < (10 : Int32) →
      Q 0 M)) : JE E (d) n_R_append 0 [some (Sum.inr 15), some (Sum.inl x1), some (Sum.inl x2)] [] M Q :=
  JE_steps 1000 [] (by decide) h
theorem b_R_placeAt_0 {E : Env0} {d : Nat} (x1 : Int32) {M : Mem} {Q : Int32 → Mem → Prop} (h :
    vp_in x1 10 ∧
    NZ 16 ∧
    Q ((M 16 (Int32.toNatClampNeg x1)) - (M 16 (Int32.toNatClampNeg x1)) / 16 * 16) M) : JE E (d) n_R_placeAt 0 [some (Sum.inr 15), some (Sum.inl x1)] [] M Q :=
  JE_steps 1000 [] (by decide) h
theorem b_R_beginsAt_0 {E : Env0} {d : Nat} (x1 : Int32) {M : Mem} {Q : Int32 → Mem → Prop} (h :
    vp_in x1 10 ∧
    ((M 16 (Int32.toNatClampNeg x1)) < (16 : Int32) →
      Z01 0 ∧ Q 0 M) ∧
    (¬ (M 16 (Int32.toNatClampNeg x1)) < (16 : Int32) →
      Z01 1 ∧ Q 1 M)) : JE E (d) n_R_beginsAt 0 [some (Sum.inr 15), some (Sum.inl x1)] [] M Q :=
  JE_steps 1000 [] (by decide) h
theorem b_R_endOfTour_0 {E : Env0} {d : Nat} (x1 : Int32) {M : Mem} {Q : Int32 → Mem → Prop} (h :
    JE E d n_R_endOfTour 4 [some (Sum.inr 15), some (Sum.inl x1), some (Sum.inl (x1 + 1))] [] M Q) : JE E (d) n_R_endOfTour 0 [some (Sum.inr 15), some (Sum.inl x1), none] [] M Q :=
  JE_steps 1000 [4] (by decide) h
theorem b_R_endOfTour_4 {E : Env0} {dd : Nat} (o1 : Option V) (x2 : Int32) {M : Mem} {Q : Int32 → Mem → Prop} (h :
    ((M 15 1) ≤ x2 →
      Q (M 15 1) M) ∧
    (¬ (M 15 1) ≤ x2 →
      CE E dd n_R_beginsAt [Sum.inr 15, Sum.inl x2] M (fun r1 M1 =>
        (r1 = 0 →
          JE E (dd + 1) n_R_endOfTour 4 [some (Sum.inr 15), o1, some (Sum.inl (x2 + 1))] [] M1 Q) ∧
        (¬ r1 = 0 →
          Q x2 M1)))) : JE E (dd + 1) n_R_endOfTour 4 [some (Sum.inr 15), o1, some (Sum.inl x2)] [] M Q :=
  JE_steps 1000 [4] (by decide) h
theorem b_R_tours_0 {E : Env0} {d : Nat}  {M : Mem} {Q : Int32 → Mem → Prop} (h :
    JE E d n_R_tours 4 [some (Sum.inr 15), some (Sum.inl 0), some (Sum.inl 0)] [] M Q) : JE E (d) n_R_tours 0 [some (Sum.inr 15), none, none] [] M Q :=
  JE_steps 1000 [4] (by decide) h
theorem b_R_tours_4 {E : Env0} {dd : Nat} (x1 : Int32) (x2 : Int32) {M : Mem} {Q : Int32 → Mem → Prop} (h :
    ((M 15 1) ≤ x2 →
      Q x1 M) ∧
    (¬ (M 15 1) ≤ x2 →
      CE E dd n_R_beginsAt [Sum.inr 15, Sum.inl x2] M (fun r1 M1 =>
        (r1 = 0 →
          JE E (dd + 1) n_R_tours 4 [some (Sum.inr 15), some (Sum.inl x1), some (Sum.inl (x2 + 1))] [] M1 Q) ∧
        (¬ r1 = 0 →
          JE E (dd + 1) n_R_tours 4 [some (Sum.inr 15), some (Sum.inl (x1 + 1)), some (Sum.inl (x2 + 1))] [] M1 Q)))) : JE E (dd + 1) n_R_tours 4 [some (Sum.inr 15), some (Sum.inl x1), some (Sum.inl x2)] [] M Q :=
  JE_steps 1000 [4] (by decide) h
theorem b_S_fill_0 {E : Env0} {d : Nat} (x1 : Int32) (x2 : Int32) (x3 : Int32) {M : Mem} {Q : Int32 → Mem → Prop} (h :
    vp_in x1 8 ∧ 
    vp_in x1 8 ∧ 
    Q 0 (mset (mset M 12 (Int32.toNatClampNeg x1) x2) 13 (Int32.toNatClampNeg x1) x3)) : JE E (d) n_S_fill 0 [some (Sum.inr 11), some (Sum.inl x1), some (Sum.inl x2), some (Sum.inl x3)] [] M Q :=
  JE_steps 1000 [] (by decide) h
theorem b_S_lowestOf_0 {E : Env0} {d : Nat} (x1 : Int32) {M : Mem} {Q : Int32 → Mem → Prop} (h :
    JE E d n_S_lowestOf 2 [some (Sum.inr 11), some (Sum.inl x1), some (Sum.inl 0)] [] M Q) : JE E (d) n_S_lowestOf 0 [some (Sum.inr 11), some (Sum.inl x1), none] [] M Q :=
  JE_steps 1000 [2] (by decide) h
theorem b_S_lowestOf_2 {E : Env0} {d : Nat} (x1 : Int32) (x2 : Int32) {M : Mem} {Q : Int32 → Mem → Prop} (h :
    ((8 : Int32) ≤ x2 →
      Q (-1) M) ∧
    (¬ (8 : Int32) ≤ x2 →
      vp_in x2 8 ∧
      (¬ (M 12 (Int32.toNatClampNeg x2)) = x1 →
        JE E d n_S_lowestOf 2 [some (Sum.inr 11), some (Sum.inl x1), some (Sum.inl (x2 + 1))] [] M Q) ∧
      ((M 12 (Int32.toNatClampNeg x2)) = x1 →
        Q x2 M))) : JE E (d) n_S_lowestOf 2 [some (Sum.inr 11), some (Sum.inl x1), some (Sum.inl x2)] [] M Q :=
  JE_steps 1000 [2] (by decide) h
theorem b_S_exchange_0 {E : Env0} {dd : Nat} (x1 : Int32) (x2 : Int32) {M : Mem} {Q : Int32 → Mem → Prop} (h :
    vp_in x1 8 ∧
    vp_in x1 8 ∧
    vp_in x2 8 ∧
    vp_in x2 8 ∧
    CE E dd n_S_fill [Sum.inr 11, Sum.inl x1, Sum.inl (M 12 (Int32.toNatClampNeg x2)), Sum.inl (M 13 (Int32.toNatClampNeg x2))] M (fun r1 M1 =>
      CE E dd n_S_fill [Sum.inr 11, Sum.inl x2, Sum.inl (M 12 (Int32.toNatClampNeg x1)), Sum.inl (M 13 (Int32.toNatClampNeg x1))] M1 (fun r2 M2 =>
        Q 0 M2))) : JE E (dd + 1) n_S_exchange 0 [some (Sum.inr 11), some (Sum.inl x1), some (Sum.inl x2), none, none] [] M Q :=
  JE_steps 1000 [] (by decide) h
theorem b_D_isWithin_0 {E : Env0} {d : Nat} (x0 : Int32) (x1 : Int32) (x2 : Int32) {M : Mem} {Q : Int32 → Mem → Prop} (h :
    (x0 < x1 →
      Z01 0 ∧ Q 0 M) ∧
    (¬ x0 < x1 →
      (x2 < x0 →
        Z01 0 ∧ Q 0 M) ∧
      (¬ x2 < x0 →
        Z01 1 ∧ Q 1 M))) : JE E (d) n_D_isWithin 0 [some (Sum.inl x0), some (Sum.inl x1), some (Sum.inl x2)] [] M Q :=
  JE_steps 1000 [] (by decide) h
theorem b_D_hasBit_0 {E : Env0} {d : Nat} (x0 : Int32) (x1 : Int32) {M : Mem} {Q : Int32 → Mem → Prop} (h :
    (((x0 >>> (x1 &&& 31)) &&& 1) = 0 →
      Z01 0 ∧ Q 0 M) ∧
    (¬ ((x0 >>> (x1 &&& 31)) &&& 1) = 0 →
      Z01 1 ∧ Q 1 M)) : JE E (d) n_D_hasBit 0 [some (Sum.inl x0), some (Sum.inl x1)] [] M Q :=
  JE_steps 1000 [] (by decide) h
theorem b_D_way_0 {E : Env0} {d : Nat} (x0 : Int32) (x1 : Int32) (x2 : Int32) (x3 : Int32) {M : Mem} {Q : Int32 → Mem → Prop} (h :
    Q (if (if 0 ≤ (x2 - x0) then (x2 - x0) else 0 - (x2 - x0)) < (if 0 ≤ (x3 - x1) then (x3 - x1) else 0 - (x3 - x1)) then (if 0 ≤ (x3 - x1) then (x3 - x1) else 0 - (x3 - x1)) else (if 0 ≤ (x2 - x0) then (x2 - x0) else 0 - (x2 - x0))) M) : JE E (d) n_D_way 0 [some (Sum.inl x0), some (Sum.inl x1), some (Sum.inl x2), some (Sum.inl x3)] [] M Q :=
  JE_steps 1000 [] (by decide) h
theorem b_JI_bitCount_0 {E : Env0} {d : Nat} (x0 : Int32) {M : Mem} {Q : Int32 → Mem → Prop} (h :
    Q ((((((((x0 - (((Int32.toUInt32 x0 >>> (Int32.toUInt32 1 &&& Int32.toUInt32 31)).toInt32) &&& 1431655765)) &&& 858993459) + (((Int32.toUInt32 (x0 - (((Int32.toUInt32 x0 >>> (Int32.toUInt32 1 &&& Int32.toUInt32 31)).toInt32) &&& 1431655765)) >>> (Int32.toUInt32 2 &&& Int32.toUInt32 31)).toInt32) &&& 858993459)) + ((Int32.toUInt32 (((x0 - (((Int32.toUInt32 x0 >>> (Int32.toUInt32 1 &&& Int32.toUInt32 31)).toInt32) &&& 1431655765)) &&& 858993459) + (((Int32.toUInt32 (x0 - (((Int32.toUInt32 x0 >>> (Int32.toUInt32 1 &&& Int32.toUInt32 31)).toInt32) &&& 1431655765)) >>> (Int32.toUInt32 2 &&& Int32.toUInt32 31)).toInt32) &&& 858993459)) >>> (Int32.toUInt32 4 &&& Int32.toUInt32 31)).toInt32)) &&& 252645135) + ((Int32.toUInt32 (((((x0 - (((Int32.toUInt32 x0 >>> (Int32.toUInt32 1 &&& Int32.toUInt32 31)).toInt32) &&& 1431655765)) &&& 858993459) + (((Int32.toUInt32 (x0 - (((Int32.toUInt32 x0 >>> (Int32.toUInt32 1 &&& Int32.toUInt32 31)).toInt32) &&& 1431655765)) >>> (Int32.toUInt32 2 &&& Int32.toUInt32 31)).toInt32) &&& 858993459)) + ((Int32.toUInt32 (((x0 - (((Int32.toUInt32 x0 >>> (Int32.toUInt32 1 &&& Int32.toUInt32 31)).toInt32) &&& 1431655765)) &&& 858993459) + (((Int32.toUInt32 (x0 - (((Int32.toUInt32 x0 >>> (Int32.toUInt32 1 &&& Int32.toUInt32 31)).toInt32) &&& 1431655765)) >>> (Int32.toUInt32 2 &&& Int32.toUInt32 31)).toInt32) &&& 858993459)) >>> (Int32.toUInt32 4 &&& Int32.toUInt32 31)).toInt32)) &&& 252645135) >>> (Int32.toUInt32 8 &&& Int32.toUInt32 31)).toInt32)) + ((Int32.toUInt32 ((((((x0 - (((Int32.toUInt32 x0 >>> (Int32.toUInt32 1 &&& Int32.toUInt32 31)).toInt32) &&& 1431655765)) &&& 858993459) + (((Int32.toUInt32 (x0 - (((Int32.toUInt32 x0 >>> (Int32.toUInt32 1 &&& Int32.toUInt32 31)).toInt32) &&& 1431655765)) >>> (Int32.toUInt32 2 &&& Int32.toUInt32 31)).toInt32) &&& 858993459)) + ((Int32.toUInt32 (((x0 - (((Int32.toUInt32 x0 >>> (Int32.toUInt32 1 &&& Int32.toUInt32 31)).toInt32) &&& 1431655765)) &&& 858993459) + (((Int32.toUInt32 (x0 - (((Int32.toUInt32 x0 >>> (Int32.toUInt32 1 &&& Int32.toUInt32 31)).toInt32) &&& 1431655765)) >>> (Int32.toUInt32 2 &&& Int32.toUInt32 31)).toInt32) &&& 858993459)) >>> (Int32.toUInt32 4 &&& Int32.toUInt32 31)).toInt32)) &&& 252645135) + ((Int32.toUInt32 (((((x0 - (((Int32.toUInt32 x0 >>> (Int32.toUInt32 1 &&& Int32.toUInt32 31)).toInt32) &&& 1431655765)) &&& 858993459) + (((Int32.toUInt32 (x0 - (((Int32.toUInt32 x0 >>> (Int32.toUInt32 1 &&& Int32.toUInt32 31)).toInt32) &&& 1431655765)) >>> (Int32.toUInt32 2 &&& Int32.toUInt32 31)).toInt32) &&& 858993459)) + ((Int32.toUInt32 (((x0 - (((Int32.toUInt32 x0 >>> (Int32.toUInt32 1 &&& Int32.toUInt32 31)).toInt32) &&& 1431655765)) &&& 858993459) + (((Int32.toUInt32 (x0 - (((Int32.toUInt32 x0 >>> (Int32.toUInt32 1 &&& Int32.toUInt32 31)).toInt32) &&& 1431655765)) >>> (Int32.toUInt32 2 &&& Int32.toUInt32 31)).toInt32) &&& 858993459)) >>> (Int32.toUInt32 4 &&& Int32.toUInt32 31)).toInt32)) &&& 252645135) >>> (Int32.toUInt32 8 &&& Int32.toUInt32 31)).toInt32)) >>> (Int32.toUInt32 16 &&& Int32.toUInt32 31)).toInt32)) &&& 63) M) : JE E (d) n_JI_bitCount 0 [some (Sum.inl x0)] [] M Q :=
  JE_steps 1000 [] (by decide) h
theorem b_JA_fill_19_0 {E : Env0} {d : Nat} (x1 : Int32) {M : Mem} {Q : Int32 → Mem → Prop} (h :
    JE E d n_JA_fill 5 [some (Sum.inr 19), some (Sum.inl x1), some (Sum.inl 0), some (Sum.inl (nI 8))] [] M Q) : JE E (d) n_JA_fill 0 [some (Sum.inr 19), some (Sum.inl x1), none, none] [] M Q :=
  JE_steps 1000 [5] (by decide) h
theorem b_JA_fill_19_5 {E : Env0} {d : Nat} (x1 : Int32) (x2 : Int32) (x3 : Int32) {M : Mem} {Q : Int32 → Mem → Prop} (h :
    (x3 ≤ x2 →
      Q 0 M) ∧
    (¬ x3 ≤ x2 →
      vp_in x2 8 ∧ 
      JE E d n_JA_fill 5 [some (Sum.inr 19), some (Sum.inl x1), some (Sum.inl (x2 + 1)), some (Sum.inl x3)] [] (mset M 19 (Int32.toNatClampNeg x2) x1) Q)) : JE E (d) n_JA_fill 5 [some (Sum.inr 19), some (Sum.inl x1), some (Sum.inl x2), some (Sum.inl x3)] [] M Q :=
  JE_steps 1000 [5] (by decide) h
theorem b_JA_fill_25_0 {E : Env0} {d : Nat} (x1 : Int32) {M : Mem} {Q : Int32 → Mem → Prop} (h :
    JE E d n_JA_fill 5 [some (Sum.inr 25), some (Sum.inl x1), some (Sum.inl 0), some (Sum.inl (nI 1024))] [] M Q) : JE E (d) n_JA_fill 0 [some (Sum.inr 25), some (Sum.inl x1), none, none] [] M Q :=
  JE_steps 1000 [5] (by decide) h
theorem b_JA_fill_25_5 {E : Env0} {d : Nat} (x1 : Int32) (x2 : Int32) (x3 : Int32) {M : Mem} {Q : Int32 → Mem → Prop} (h :
    (x3 ≤ x2 →
      Q 0 M) ∧
    (¬ x3 ≤ x2 →
      vp_in x2 1024 ∧ 
      JE E d n_JA_fill 5 [some (Sum.inr 25), some (Sum.inl x1), some (Sum.inl (x2 + 1)), some (Sum.inl x3)] [] (mset M 25 (Int32.toNatClampNeg x2) x1) Q)) : JE E (d) n_JA_fill 5 [some (Sum.inr 25), some (Sum.inl x1), some (Sum.inl x2), some (Sum.inl x3)] [] M Q :=
  JE_steps 1000 [5] (by decide) h
theorem b_JA_fill_30_0 {E : Env0} {d : Nat} (x1 : Int32) {M : Mem} {Q : Int32 → Mem → Prop} (h :
    JE E d n_JA_fill 5 [some (Sum.inr 30), some (Sum.inl x1), some (Sum.inl 0), some (Sum.inl (nI 8))] [] M Q) : JE E (d) n_JA_fill 0 [some (Sum.inr 30), some (Sum.inl x1), none, none] [] M Q :=
  JE_steps 1000 [5] (by decide) h
theorem b_JA_fill_30_5 {E : Env0} {d : Nat} (x1 : Int32) (x2 : Int32) (x3 : Int32) {M : Mem} {Q : Int32 → Mem → Prop} (h :
    (x3 ≤ x2 →
      Q 0 M) ∧
    (¬ x3 ≤ x2 →
      vp_in x2 8 ∧ 
      JE E d n_JA_fill 5 [some (Sum.inr 30), some (Sum.inl x1), some (Sum.inl (x2 + 1)), some (Sum.inl x3)] [] (mset M 30 (Int32.toNatClampNeg x2) x1) Q)) : JE E (d) n_JA_fill 5 [some (Sum.inr 30), some (Sum.inl x1), some (Sum.inl x2), some (Sum.inl x3)] [] M Q :=
  JE_steps 1000 [5] (by decide) h
