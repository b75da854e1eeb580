/-! printed by wip/gen/allblocks.py: what each body owes at its cuts -/
theorem b_F_find_0 {E : Env0} {dd : Nat}  {M : Mem} {Q : Int32 → Mem → Prop} (h :
    ((M 1 4) < (1 : Int32) →
      Q (-1) M) ∧
    (¬ (M 1 4) < (1 : Int32) →
      ((7 : Int32) < (M 1 4) →
        Q (-1) M) ∧
      (¬ (7 : Int32) < (M 1 4) →
        CE E dd n_F_findSlots [Sum.inr 20] M (fun r1 M1 =>
          (¬ r1 = 0 →
            JE E (dd + 1) n_F_find 49 [some (Sum.inr 20), some (Sum.inl 1)] [] (mset M1 20 3 ((1 <<< ((M1 1 4) &&& 31)) - 1)) Q) ∧
          (r1 = 0 →
            Q (-1) M1))))) : JE E (dd + 1) n_F_find 0 [some (Sum.inr 20), none] [] M Q :=
  JE_steps 1000 [49, 79, 113] (by decide) h
theorem b_F_find_49 {E : Env0} {dd : Nat} (x1 : Int32) {M : Mem} {Q : Int32 → Mem → Prop} (h :
    ((M 20 3) < x1 →
      CE E dd n_JA_fill [Sum.inr 25, Sum.inl 2147483647] M (fun r1 M1 =>
        JE E (dd + 1) n_F_find 79 [some (Sum.inr 20), some (Sum.inl 0)] [] M1 Q)) ∧
    (¬ (M 20 3) < x1 →
      CE E dd n_F_measure [Sum.inr 20, Sum.inl x1] M (fun r2 M2 =>
        JE E (dd + 1) n_F_find 49 [some (Sum.inr 20), some (Sum.inl (x1 + 1))] [] M2 Q))) : JE E (dd + 1) n_F_find 49 [some (Sum.inr 20), some (Sum.inl x1)] [] M Q :=
  JE_steps 1000 [49, 79, 113] (by decide) h
theorem b_F_find_79 {E : Env0} {d : Nat} (x1 : Int32) {M : Mem} {Q : Int32 → Mem → Prop} (h :
    ((8 : Int32) ≤ x1 →
      JE E d n_F_find 113 [some (Sum.inr 20), some (Sum.inl ((M 20 3) - 1))] [] M Q) ∧
    (¬ (8 : Int32) ≤ x1 →
      vp_in (((M 20 3) * 8) + x1) 1024 ∧ 
      JE E d n_F_find 79 [some (Sum.inr 20), some (Sum.inl (x1 + 1))] [] (mset M 25 (Int32.toNatClampNeg (((M 20 3) * 8) + x1)) 0) Q)) : JE E (d) n_F_find 79 [some (Sum.inr 20), some (Sum.inl x1)] [] M Q :=
  JE_steps 1000 [49, 79, 113] (by decide) h
theorem b_F_find_113 {E : Env0} {dd : Nat} (x1 : Int32) {M : Mem} {Q : Int32 → Mem → Prop} (h :
    (x1 < 0 →
      vp_in 7 1024 ∧
      Q ((M 25 (Int32.toNatClampNeg 7)) >>> (12 &&& 31)) M) ∧
    (¬ x1 < 0 →
      CE E dd n_F_isReachable [Sum.inr 20, Sum.inl x1] M (fun r1 M1 =>
        (r1 = 0 →
          JE E (dd + 1) n_F_find 113 [some (Sum.inr 20), some (Sum.inl (x1 + (-1)))] [] M1 Q) ∧
        (¬ r1 = 0 →
          CE E dd n_F_tryTours [Sum.inr 20, Sum.inl x1] M1 (fun r2 M2 =>
            JE E (dd + 1) n_F_find 113 [some (Sum.inr 20), some (Sum.inl (x1 + (-1)))] [] M2 Q))))) : JE E (dd + 1) n_F_find 113 [some (Sum.inr 20), some (Sum.inl x1)] [] M Q :=
  JE_steps 1000 [49, 79, 113] (by decide) h
theorem b_F_findSlots_0 {E : Env0} {d : Nat}  {M : Mem} {Q : Int32 → Mem → Prop} (h :
    JE E d n_F_findSlots 2 [some (Sum.inr 20), some (Sum.inl 0), none] [] M Q) : JE E (d) n_F_findSlots 0 [some (Sum.inr 20), none, none] [] M Q :=
  JE_steps 1000 [2] (by decide) h
theorem b_F_findSlots_2 {E : Env0} {dd : Nat} (x1 : Int32) (o2 : Option V) {M : Mem} {Q : Int32 → Mem → Prop} (h :
    ((M 1 4) ≤ x1 →
      Z01 1 ∧ Q 1 M) ∧
    (¬ (M 1 4) ≤ x1 →
      vp_in x1 10 ∧
      CE E dd n_S_lowestOf [Sum.inr 11, Sum.inl (M 8 (Int32.toNatClampNeg x1))] M (fun r1 M1 =>
        (¬ r1 = ((-1) : Int32) →
          vp_in x1 7 ∧ 
          JE E (dd + 1) n_F_findSlots 2 [some (Sum.inr 20), some (Sum.inl (x1 + 1)), some (Sum.inl r1)] [] (mset M1 21 (Int32.toNatClampNeg x1) (20 * r1)) Q) ∧
        (r1 = ((-1) : Int32) →
          Z01 0 ∧ Q 0 M1)))) : JE E (dd + 1) n_F_findSlots 2 [some (Sum.inr 20), some (Sum.inl x1), o2] [] M Q :=
  JE_steps 1000 [2] (by decide) h
theorem b_F_measure_0 {E : Env0} {d : Nat} (x1 : Int32) {M : Mem} {Q : Int32 → Mem → Prop} (h :
    JE E d n_F_measure 12 [some (Sum.inr 20), some (Sum.inl x1), some (Sum.inl 199), some (Sum.inl 0), some (Sum.inl 0), some (Sum.inl 0)] [] M Q) : JE E (d) n_F_measure 0 [some (Sum.inr 20), some (Sum.inl x1), none, none, none, none] [] M Q :=
  JE_steps 1000 [12] (by decide) h
theorem b_F_measure_12 {E : Env0} {dd : Nat} (x1 : Int32) (x2 : Int32) (x3 : Int32) (x4 : Int32) (x5 : Int32) {M : Mem} {Q : Int32 → Mem → Prop} (h :
    ((M 1 4) ≤ x5 →
      vp_in x1 128 ∧ 
      (x4 ≤ 0 →
        vp_in x1 128 ∧ 
        vp_in x1 128 ∧
        CE E dd n_JI_bitCount [Sum.inl x1] (mset (mset M 23 (Int32.toNatClampNeg x1) x2) 24 (Int32.toNatClampNeg x1) x3) (fun r1 M1 =>
          vp_in x1 128 ∧ 
          Q 0 (mset M1 22 (Int32.toNatClampNeg x1) (((((mset (mset M 23 (Int32.toNatClampNeg x1) x2) 24 (Int32.toNatClampNeg x1) x3) 24 (Int32.toNatClampNeg x1)) - x2) + (x4 * (M 14 3))) + (r1 * ((M1 14 1) + (M1 14 2))))))) ∧
      (¬ x4 ≤ 0 →
        vp_in x1 128 ∧ 
        vp_in x1 128 ∧
        CE E dd n_JI_bitCount [Sum.inl x1] (mset (mset M 23 (Int32.toNatClampNeg x1) x2) 24 (Int32.toNatClampNeg x1) 199) (fun r2 M2 =>
          vp_in x1 128 ∧ 
          Q 0 (mset M2 22 (Int32.toNatClampNeg x1) (((((mset (mset M 23 (Int32.toNatClampNeg x1) x2) 24 (Int32.toNatClampNeg x1) 199) 24 (Int32.toNatClampNeg x1)) - x2) + (x4 * (M 14 3))) + (r2 * ((M2 14 1) + (M2 14 2)))))))) ∧
    (¬ (M 1 4) ≤ x5 →
      CE E dd n_D_hasBit [Sum.inl x1, Sum.inl x5] M (fun r3 M3 =>
        (r3 = 0 →
          JE E (dd + 1) n_F_measure 12 [some (Sum.inr 20), some (Sum.inl x1), some (Sum.inl x2), some (Sum.inl x3), some (Sum.inl x4), some (Sum.inl (x5 + 1))] [] M3 Q) ∧
        (¬ r3 = 0 →
          vp_in x5 7 ∧
          vp_in x5 7 ∧
          CE E dd n_B_isFine [Sum.inr 1, Sum.inl x5] M3 (fun r4 M4 =>
            (r4 = 0 →
              JE E (dd + 1) n_F_measure 12 [some (Sum.inr 20), some (Sum.inl x1), some (Sum.inl (if (M3 21 (Int32.toNatClampNeg x5)) < x2 then (M3 21 (Int32.toNatClampNeg x5)) else x2)), some (Sum.inl (if x3 < (M3 21 (Int32.toNatClampNeg x5)) then (M3 21 (Int32.toNatClampNeg x5)) else x3)), some (Sum.inl (x4 + 0)), some (Sum.inl (x5 + 1))] [] M4 Q) ∧
            (¬ r4 = 0 →
              JE E (dd + 1) n_F_measure 12 [some (Sum.inr 20), some (Sum.inl x1), some (Sum.inl (if (M3 21 (Int32.toNatClampNeg x5)) < x2 then (M3 21 (Int32.toNatClampNeg x5)) else x2)), some (Sum.inl (if x3 < (M3 21 (Int32.toNatClampNeg x5)) then (M3 21 (Int32.toNatClampNeg x5)) else x3)), some (Sum.inl (x4 + 1)), some (Sum.inl (x5 + 1))] [] M4 Q)))))) : JE E (dd + 1) n_F_measure 12 [some (Sum.inr 20), some (Sum.inl x1), some (Sum.inl x2), some (Sum.inl x3), some (Sum.inl x4), some (Sum.inl x5)] [] M Q :=
  JE_steps 1000 [12] (by decide) h
theorem b_F_isReachable_0 {E : Env0} {d : Nat} (x1 : Int32) {M : Mem} {Q : Int32 → Mem → Prop} (h :
    JE E d n_F_isReachable 2 [some (Sum.inr 20), some (Sum.inl x1), some (Sum.inl 0)] [] M Q) : JE E (d) n_F_isReachable 0 [some (Sum.inr 20), some (Sum.inl x1), none] [] M Q :=
  JE_steps 1000 [2] (by decide) h
theorem b_F_isReachable_2 {E : Env0} {dd : Nat} (x1 : Int32) (x2 : Int32) {M : Mem} {Q : Int32 → Mem → Prop} (h :
    ((M 1 4) ≤ x2 →
      Z01 1 ∧ Q 1 M) ∧
    (¬ (M 1 4) ≤ x2 →
      CE E dd n_D_hasBit [Sum.inl x1, Sum.inl x2] M (fun r1 M1 =>
        (r1 = 0 →
          JE E (dd + 1) n_F_isReachable 2 [some (Sum.inr 20), some (Sum.inl x1), some (Sum.inl (x2 + 1))] [] M1 Q) ∧
        (¬ r1 = 0 →
          vp_in x2 10 ∧
          (((M1 9 (Int32.toNatClampNeg x2)) &&& (x1 ^^^ (-1))) = 0 →
            JE E (dd + 1) n_F_isReachable 2 [some (Sum.inr 20), some (Sum.inl x1), some (Sum.inl (x2 + 1))] [] M1 Q) ∧
          (¬ ((M1 9 (Int32.toNatClampNeg x2)) &&& (x1 ^^^ (-1))) = 0 →
            Z01 0 ∧ Q 0 M1))))) : JE E (dd + 1) n_F_isReachable 2 [some (Sum.inr 20), some (Sum.inl x1), some (Sum.inl x2)] [] M Q :=
  JE_steps 1000 [2] (by decide) h
theorem b_F_canCome_0 {E : Env0} {dd : Nat} (x1 : Int32) (x2 : Int32) {M : Mem} {Q : Int32 → Mem → Prop} (h :
    CE E dd n_D_hasBit [Sum.inl x2, Sum.inl x1] M (fun r1 M1 =>
      (¬ r1 = 0 →
        Z01 0 ∧ Q 0 M1) ∧
      (r1 = 0 →
        vp_in x1 10 ∧
        (¬ ((M1 9 (Int32.toNatClampNeg x1)) &&& (x2 ^^^ (-1))) = 0 →
          Z01 0 ∧ Q 0 M1) ∧
        (((M1 9 (Int32.toNatClampNeg x1)) &&& (x2 ^^^ (-1))) = 0 →
          Z01 1 ∧ Q 1 M1)))) : JE E (dd + 1) n_F_canCome 0 [some (Sum.inr 20), some (Sum.inl x1), some (Sum.inl x2)] [] M Q :=
  JE_steps 1000 [] (by decide) h
theorem b_F_tryTours_0 {E : Env0} {d : Nat} (x1 : Int32) {M : Mem} {Q : Int32 → Mem → Prop} (h :
    JE E d n_F_tryTours 2 [some (Sum.inr 20), some (Sum.inl x1), some (Sum.inl 0)] [] M Q) : JE E (d) n_F_tryTours 0 [some (Sum.inr 20), some (Sum.inl x1), none] [] M Q :=
  JE_steps 1000 [2] (by decide) h
theorem b_F_tryTours_2 {E : Env0} {dd : Nat} (x1 : Int32) (x2 : Int32) {M : Mem} {Q : Int32 → Mem → Prop} (h :
    ((M 1 4) ≤ x2 →
      Q 0 M) ∧
    (¬ (M 1 4) ≤ x2 →
      CE E dd n_F_canCome [Sum.inr 20, Sum.inl x2, Sum.inl x1] M (fun r1 M1 =>
        (r1 = 0 →
          JE E (dd + 1) n_F_tryTours 2 [some (Sum.inr 20), some (Sum.inl x1), some (Sum.inl (x2 + 1))] [] M1 Q) ∧
        (¬ r1 = 0 →
          CE E dd n_F_withDigit [Sum.inl 4095, Sum.inl 0, Sum.inl x2] M1 (fun r2 M2 =>
            CE E dd n_F_extend [Sum.inr 20, Sum.inl x1, Sum.inl (1 <<< (x2 &&& 31)), Sum.inl x2, Sum.inl 0, Sum.inl r2, Sum.inl 1] M2 (fun r3 M3 =>
              JE E (dd + 1) n_F_tryTours 2 [some (Sum.inr 20), some (Sum.inl x1), some (Sum.inl (x2 + 1))] [] M3 Q)))))) : JE E (dd + 1) n_F_tryTours 2 [some (Sum.inr 20), some (Sum.inl x1), some (Sum.inl x2)] [] M Q :=
  JE_steps 1000 [2] (by decide) h
theorem b_F_extend_0 {E : Env0} {dd : Nat} (x1 : Int32) (x2 : Int32) (x3 : Int32) (x4 : Int32) (x5 : Int32) (x6 : Int32) {M : Mem} {Q : Int32 → Mem → Prop} (h :
    ((M 14 0) ≤ x6 →
      CE E dd n_F_weigh [Sum.inr 20, Sum.inl x1, Sum.inl x2, Sum.inl x3, Sum.inl x4, Sum.inl x5] M (fun r1 M1 =>
        Q 0 M1)) ∧
    (¬ (M 14 0) ≤ x6 →
      ((4 : Int32) ≤ x6 →
        CE E dd n_F_weigh [Sum.inr 20, Sum.inl x1, Sum.inl x2, Sum.inl x3, Sum.inl x4, Sum.inl x5] M (fun r2 M2 =>
          Q 0 M2)) ∧
      (¬ (4 : Int32) ≤ x6 →
        JE E (dd + 1) n_F_extend 21 [some (Sum.inr 20), some (Sum.inl x1), some (Sum.inl x2), some (Sum.inl x3), some (Sum.inl x4), some (Sum.inl x5), some (Sum.inl x6), some (Sum.inl 0), none] [] M Q))) : JE E (dd + 1) n_F_extend 0 [some (Sum.inr 20), some (Sum.inl x1), some (Sum.inl x2), some (Sum.inl x3), some (Sum.inl x4), some (Sum.inl x5), some (Sum.inl x6), none, none] [] M Q :=
  JE_steps 1000 [21] (by decide) h
theorem b_F_extend_21 {E : Env0} {dd : Nat} (x1 : Int32) (x2 : Int32) (x3 : Int32) (x4 : Int32) (x5 : Int32) (x6 : Int32) (x7 : Int32) (o8 : Option V) {M : Mem} {Q : Int32 → Mem → Prop} (h :
    ((M 1 4) ≤ x7 →
      CE E dd n_F_weigh [Sum.inr 20, Sum.inl x1, Sum.inl x2, Sum.inl x3, Sum.inl x4, Sum.inl x5] M (fun r1 M1 =>
        Q 0 M1)) ∧
    (¬ (M 1 4) ≤ x7 →
      CE E dd n_F_canCome [Sum.inr 20, Sum.inl x7, Sum.inl (x1 ||| x2)] M (fun r2 M2 =>
        (r2 = 0 →
          JE E (dd + 1) n_F_extend 21 [some (Sum.inr 20), some (Sum.inl x1), some (Sum.inl x2), some (Sum.inl x3), some (Sum.inl x4), some (Sum.inl x5), some (Sum.inl x6), some (Sum.inl (x7 + 1)), o8] [] M2 Q) ∧
        (¬ r2 = 0 →
          CE E dd n_B_nozzleOf [Sum.inr 1, Sum.inl x7] M2 (fun r3 M3 =>
            CE E dd n_B_nozzleOf [Sum.inr 1, Sum.inl x3] M3 (fun r4 M4 =>
              (¬ r3 = r4 →
                JE E (dd + 1) n_F_extend 21 [some (Sum.inr 20), some (Sum.inl x1), some (Sum.inl x2), some (Sum.inl x3), some (Sum.inl x4), some (Sum.inl x5), some (Sum.inl x6), some (Sum.inl (x7 + 1)), o8] [] M4 Q) ∧
              (r3 = r4 →
                vp_in x3 10 ∧
                vp_in x3 10 ∧
                vp_in x7 10 ∧
                vp_in x7 10 ∧
                CE E dd n_D_way [Sum.inl (M4 6 (Int32.toNatClampNeg x3)), Sum.inl (M4 7 (Int32.toNatClampNeg x3)), Sum.inl (M4 6 (Int32.toNatClampNeg x7)), Sum.inl (M4 7 (Int32.toNatClampNeg x7))] M4 (fun r5 M5 =>
                  CE E dd n_F_withDigit [Sum.inl x5, Sum.inl x6, Sum.inl x7] M5 (fun r6 M6 =>
                    CE E dd n_F_extend [Sum.inr 20, Sum.inl x1, Sum.inl (x2 ||| (1 <<< (x7 &&& 31))), Sum.inl x7, Sum.inl (x4 + r5), Sum.inl r6, Sum.inl (x6 + 1)] M6 (fun r7 M7 =>
                      JE E (dd + 1) n_F_extend 21 [some (Sum.inr 20), some (Sum.inl x1), some (Sum.inl x2), some (Sum.inl x3), some (Sum.inl x4), some (Sum.inl x5), some (Sum.inl x6), some (Sum.inl (x7 + 1)), some (Sum.inl (x4 + r5))] [] M7 Q)))))))))) : JE E (dd + 1) n_F_extend 21 [some (Sum.inr 20), some (Sum.inl x1), some (Sum.inl x2), some (Sum.inl x3), some (Sum.inl x4), some (Sum.inl x5), some (Sum.inl x6), some (Sum.inl x7), o8] [] M Q :=
  JE_steps 1000 [21] (by decide) h
theorem b_F_weigh_0 {E : Env0} {dd : Nat} (x1 : Int32) (x2 : Int32) (x3 : Int32) (x4 : Int32) (x5 : Int32) {M : Mem} {Q : Int32 → Mem → Prop} (h :
    CE E dd n_F_digit [Sum.inl x5, Sum.inl 0] M (fun r1 M1 =>
      vp_in (((x1 ||| x2) * 8) + x3) 1024 ∧
      vp_in x2 128 ∧
      vp_in x2 128 ∧
      vp_in r1 10 ∧
      vp_in r1 10 ∧
      CE E dd n_D_way [Sum.inl (M1 24 (Int32.toNatClampNeg x2)), Sum.inl 0, Sum.inl (M1 6 (Int32.toNatClampNeg r1)), Sum.inl (M1 7 (Int32.toNatClampNeg r1))] M1 (fun r2 M2 =>
        CE E dd n_B_nozzleOf [Sum.inr 1, Sum.inl r1] M2 (fun r3 M3 =>
          (¬ x1 = 0 →
            JE E (dd + 1) n_F_weigh 128 [some (Sum.inr 20), some (Sum.inl x1), some (Sum.inl x2), some (Sum.inl x3), some (Sum.inl x4), some (Sum.inl x5), some (Sum.inl r1), some (Sum.inl ((M1 25 (Int32.toNatClampNeg (((x1 ||| x2) * 8) + x3))) >>> (12 &&& 31))), some (Sum.inl ((((M1 22 (Int32.toNatClampNeg x2)) + r2) + x4) + ((M1 25 (Int32.toNatClampNeg (((x1 ||| x2) * 8) + x3))) >>> (12 &&& 31)))), some (Sum.inl r3), some (Sum.inl 0), none, none] [] M3 Q) ∧
          (x1 = 0 →
            (¬ r3 = 0 →
              vp_in x2 128 ∧
              CE E dd n_F_keep [Sum.inr 20, Sum.inl 7, Sum.inl ((((((M1 22 (Int32.toNatClampNeg x2)) + r2) + x4) + ((M1 25 (Int32.toNatClampNeg (((x1 ||| x2) * 8) + x3))) >>> (12 &&& 31))) + (M3 14 4)) + (M3 23 (Int32.toNatClampNeg x2))), Sum.inl x5] M3 (fun r4 M4 =>
                Q 0 M4)) ∧
            (r3 = 0 →
              vp_in x2 128 ∧
              CE E dd n_F_keep [Sum.inr 20, Sum.inl 7, Sum.inl ((((((M1 22 (Int32.toNatClampNeg x2)) + r2) + x4) + ((M1 25 (Int32.toNatClampNeg (((x1 ||| x2) * 8) + x3))) >>> (12 &&& 31))) + 0) + (M3 23 (Int32.toNatClampNeg x2))), Sum.inl x5] M3 (fun r5 M5 =>
                Q 0 M5))))))) : JE E (dd + 1) n_F_weigh 0 [some (Sum.inr 20), some (Sum.inl x1), some (Sum.inl x2), some (Sum.inl x3), some (Sum.inl x4), some (Sum.inl x5), none, none, none, none, none, none, none] [] M Q :=
  JE_steps 1000 [128] (by decide) h
theorem b_F_weigh_128 {E : Env0} {dd : Nat} (x1 : Int32) (x2 : Int32) (o3 : Option V) (o4 : Option V) (x5 : Int32) (o6 : Option V) (o7 : Option V) (x8 : Int32) (x9 : Int32) (x10 : Int32) (o11 : Option V) (o12 : Option V) {M : Mem} {Q : Int32 → Mem → Prop} (h :
    ((M 1 4) ≤ x10 →
      Q 0 M) ∧
    (¬ (M 1 4) ≤ x10 →
      CE E dd n_D_hasBit [Sum.inl x1, Sum.inl x10] M (fun r1 M1 =>
        (r1 = 0 →
          JE E (dd + 1) n_F_weigh 128 [some (Sum.inr 20), some (Sum.inl x1), some (Sum.inl x2), o3, o4, some (Sum.inl x5), o6, o7, some (Sum.inl x8), some (Sum.inl x9), some (Sum.inl (x10 + 1)), o11, o12] [] M1 Q) ∧
        (¬ r1 = 0 →
          CE E dd n_B_nozzleOf [Sum.inr 1, Sum.inl x10] M1 (fun r2 M2 =>
            (¬ x9 = r2 →
              vp_in x10 10 ∧
              vp_in x10 10 ∧
              vp_in x2 128 ∧
              CE E dd n_D_way [Sum.inl (M2 6 (Int32.toNatClampNeg x10)), Sum.inl (M2 7 (Int32.toNatClampNeg x10)), Sum.inl (M2 23 (Int32.toNatClampNeg x2)), Sum.inl 0] M2 (fun r3 M3 =>
                CE E dd n_F_keep [Sum.inr 20, Sum.inl ((x1 * 8) + x10), Sum.inl ((x8 + (M2 14 4)) + r3), Sum.inl x5] M3 (fun r4 M4 =>
                  JE E (dd + 1) n_F_weigh 128 [some (Sum.inr 20), some (Sum.inl x1), some (Sum.inl x2), o3, o4, some (Sum.inl x5), o6, o7, some (Sum.inl x8), some (Sum.inl x9), some (Sum.inl (x10 + 1)), some (Sum.inl (M2 14 4)), some (Sum.inl r3)] [] M4 Q))) ∧
            (x9 = r2 →
              vp_in x10 10 ∧
              vp_in x10 10 ∧
              vp_in x2 128 ∧
              CE E dd n_D_way [Sum.inl (M2 6 (Int32.toNatClampNeg x10)), Sum.inl (M2 7 (Int32.toNatClampNeg x10)), Sum.inl (M2 23 (Int32.toNatClampNeg x2)), Sum.inl 0] M2 (fun r5 M5 =>
                CE E dd n_F_keep [Sum.inr 20, Sum.inl ((x1 * 8) + x10), Sum.inl ((x8 + 0) + r5), Sum.inl x5] M5 (fun r6 M6 =>
                  JE E (dd + 1) n_F_weigh 128 [some (Sum.inr 20), some (Sum.inl x1), some (Sum.inl x2), o3, o4, some (Sum.inl x5), o6, o7, some (Sum.inl x8), some (Sum.inl x9), some (Sum.inl (x10 + 1)), some (Sum.inl 0), some (Sum.inl r5)] [] M6 Q)))))))) : JE E (dd + 1) n_F_weigh 128 [some (Sum.inr 20), some (Sum.inl x1), some (Sum.inl x2), o3, o4, some (Sum.inl x5), o6, o7, some (Sum.inl x8), some (Sum.inl x9), some (Sum.inl x10), o11, o12] [] M Q :=
  JE_steps 1000 [128] (by decide) h
theorem b_F_keep_0 {E : Env0} {d : Nat} (x1 : Int32) (x2 : Int32) (x3 : Int32) {M : Mem} {Q : Int32 → Mem → Prop} (h :
    vp_in x1 1024 ∧
    vp_in x1 1024 ∧ 
    Q 0 (mset M 25 (Int32.toNatClampNeg x1) (if ((x2 <<< (12 &&& 31)) ||| x3) < (M 25 (Int32.toNatClampNeg x1)) then ((x2 <<< (12 &&& 31)) ||| x3) else (M 25 (Int32.toNatClampNeg x1))))) : JE E (d) n_F_keep 0 [some (Sum.inr 20), some (Sum.inl x1), some (Sum.inl x2), some (Sum.inl x3)] [] M Q :=
  JE_steps 1000 [] (by decide) h
theorem b_F_withDigit_0 {E : Env0} {dd : Nat} (x0 : Int32) (x1 : Int32) (x2 : Int32) {M : Mem} {Q : Int32 → Mem → Prop} (h :
    CE E dd n_F_digitShift [Sum.inl x1] M (fun r1 M1 =>
      Q (x0 - ((7 - x2) <<< (r1 &&& 31))) M1)) : JE E (dd + 1) n_F_withDigit 0 [some (Sum.inl x0), some (Sum.inl x1), some (Sum.inl x2)] [] M Q :=
  JE_steps 1000 [] (by decide) h
theorem b_F_digit_0 {E : Env0} {dd : Nat} (x0 : Int32) (x1 : Int32) {M : Mem} {Q : Int32 → Mem → Prop} (h :
    CE E dd n_F_digitShift [Sum.inl x1] M (fun r1 M1 =>
      Q ((x0 >>> (r1 &&& 31)) &&& 7) M1)) : JE E (dd + 1) n_F_digit 0 [some (Sum.inl x0), some (Sum.inl x1)] [] M Q :=
  JE_steps 1000 [] (by decide) h
theorem b_F_digitShift_0 {E : Env0} {d : Nat} (x0 : Int32) {M : Mem} {Q : Int32 → Mem → Prop} (h :
    Q (3 * (3 - x0)) M) : JE E (d) n_F_digitShift 0 [some (Sum.inl x0)] [] M Q :=
  JE_steps 1000 [] (by decide) h
theorem b_F_writeTo_0 {E : Env0} {dd : Nat}  {M : Mem} {Q : Int32 → Mem → Prop} (h :
    CE E dd n_R_empty [Sum.inr 15] M (fun r1 M1 =>
      JE E (dd + 1) n_F_writeTo 12 [some (Sum.inr 20), some (Sum.inr 15), some (Sum.inl 0), some (Sum.inl 7), some (Sum.inl 0), none, none] [] M1 Q)) : JE E (dd + 1) n_F_writeTo 0 [some (Sum.inr 20), some (Sum.inr 15), none, none, none, none, none] [] M Q :=
  JE_steps 1000 [12, 43] (by decide) h
theorem b_F_writeTo_12 {E : Env0} {d : Nat} (x2 : Int32) (x3 : Int32) (x4 : Int32) (o5 : Option V) (o6 : Option V) {M : Mem} {Q : Int32 → Mem → Prop} (h :
    ((7 : Int32) ≤ x4 →
      Q 0 M) ∧
    (¬ (7 : Int32) ≤ x4 →
      (x2 = (M 20 3) →
        Q 0 M) ∧
      (¬ x2 = (M 20 3) →
        vp_in ((x2 * 8) + x3) 1024 ∧
        JE E d n_F_writeTo 43 [some (Sum.inr 20), some (Sum.inr 15), some (Sum.inl x2), some (Sum.inl x3), some (Sum.inl x4), some (Sum.inl (M 25 (Int32.toNatClampNeg ((x2 * 8) + x3)))), some (Sum.inl 0)] [] M Q))) : JE E (d) n_F_writeTo 12 [some (Sum.inr 20), some (Sum.inr 15), some (Sum.inl x2), some (Sum.inl x3), some (Sum.inl x4), o5, o6] [] M Q :=
  JE_steps 1000 [12, 43] (by decide) h
theorem b_F_writeTo_43 {E : Env0} {dd : Nat} (x2 : Int32) (x3 : Int32) (x4 : Int32) (x5 : Int32) (x6 : Int32) {M : Mem} {Q : Int32 → Mem → Prop} (h :
    ((4 : Int32) ≤ x6 →
      JE E (dd + 1) n_F_writeTo 12 [some (Sum.inr 20), some (Sum.inr 15), some (Sum.inl x2), some (Sum.inl x3), some (Sum.inl (x4 + 1)), some (Sum.inl x5), some (Sum.inl x6)] [] M Q) ∧
    (¬ (4 : Int32) ≤ x6 →
      CE E dd n_F_digit [Sum.inl x5, Sum.inl x6] M (fun r1 M1 =>
        (r1 = (7 : Int32) →
          JE E (dd + 1) n_F_writeTo 12 [some (Sum.inr 20), some (Sum.inr 15), some (Sum.inl x2), some (Sum.inl x3), some (Sum.inl (x4 + 1)), some (Sum.inl x5), some (Sum.inl x6)] [] M1 Q) ∧
        (¬ r1 = (7 : Int32) →
          CE E dd n_F_digit [Sum.inl x5, Sum.inl x6] M1 (fun r2 M2 =>
            (¬ x6 = 0 →
              CE E dd n_R_append [Sum.inr 15, Sum.inl r2, Sum.inl 0] M2 (fun r3 M3 =>
                JE E (dd + 1) n_F_writeTo 43 [some (Sum.inr 20), some (Sum.inr 15), some (Sum.inl (x2 ||| (1 <<< (r2 &&& 31)))), some (Sum.inl r2), some (Sum.inl x4), some (Sum.inl x5), some (Sum.inl (x6 + 1))] [] M3 Q)) ∧
            (x6 = 0 →
              CE E dd n_R_append [Sum.inr 15, Sum.inl r2, Sum.inl 1] M2 (fun r4 M4 =>
                JE E (dd + 1) n_F_writeTo 43 [some (Sum.inr 20), some (Sum.inr 15), some (Sum.inl (x2 ||| (1 <<< (r2 &&& 31)))), some (Sum.inl r2), some (Sum.inl x4), some (Sum.inl x5), some (Sum.inl (x6 + 1))] [] M4 Q))))))) : JE E (dd + 1) n_F_writeTo 43 [some (Sum.inr 20), some (Sum.inr 15), some (Sum.inl x2), some (Sum.inl x3), some (Sum.inl x4), some (Sum.inl x5), some (Sum.inl x6)] [] M Q :=
  JE_steps 1000 [12, 43] (by decide) h
