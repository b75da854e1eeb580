theorem b_D_isWithin_0 {E : Env0} {d : Nat} (x0 : Int32) (x1 : Int32) (x2 : Int32) {M : Mem} {Q : Int32 → Mem → Prop} (h :
    (x0 < x1 →
      ((0 : Int32) = 0 ∨ (0 : Int32) = 1) ∧ Q 0 M) ∧
    (¬ x0 < x1 →
      (x2 < x0 →
        ((0 : Int32) = 0 ∨ (0 : Int32) = 1) ∧ Q 0 M) ∧
      (¬ x2 < x0 →
        ((1 : Int32) = 0 ∨ (1 : Int32) = 1) ∧ Q 1 M))) : JE E (d) n_D_isWithin 0 [some (Sum.inl x0), some (Sum.inl x1), some (Sum.inl x2)] [] M Q :=
  JE_steps 1000 [] (by decide) h
theorem b_D_hasBit_0 {E : Env0} {d : Nat} (x0 : Int32) (x1 : Int32) {M : Mem} {Q : Int32 → Mem → Prop} (h :
    (((x0 >>> (x1 &&& 31)) &&& 1) = 0 →
      ((0 : Int32) = 0 ∨ (0 : Int32) = 1) ∧ Q 0 M) ∧
    (¬ ((x0 >>> (x1 &&& 31)) &&& 1) = 0 →
      ((1 : Int32) = 0 ∨ (1 : Int32) = 1) ∧ Q 1 M)) : JE E (d) n_D_hasBit 0 [some (Sum.inl x0), some (Sum.inl x1)] [] M Q :=
  JE_steps 1000 [] (by decide) h
theorem b_D_way_0 {E : Env0} {d : Nat} (x0 : Int32) (x1 : Int32) (x2 : Int32) (x3 : Int32) {M : Mem} {Q : Int32 → Mem → Prop} (h :
    Q (if (if 0 ≤ (x2 - x0) then (x2 - x0) else 0 - (x2 - x0)) < (if 0 ≤ (x3 - x1) then (x3 - x1) else 0 - (x3 - x1)) then (if 0 ≤ (x3 - x1) then (x3 - x1) else 0 - (x3 - x1)) else (if 0 ≤ (x2 - x0) then (x2 - x0) else 0 - (x2 - x0))) M) : JE E (d) n_D_way 0 [some (Sum.inl x0), some (Sum.inl x1), some (Sum.inl x2), some (Sum.inl x3)] [] M Q :=
  JE_steps 1000 [] (by decide) h
theorem b_B_hasPlaceOf_0 {E : Env0} {d : Nat} (x1 : Int32) {M : Mem} {Q : Int32 → Mem → Prop} (h :
    JE E d n_B_hasPlaceOf 2 [some (Sum.inr 1), some (Sum.inl x1), some (Sum.inl 0)] [] M Q) : JE E (d) n_B_hasPlaceOf 0 [some (Sum.inr 1), some (Sum.inl x1), none] [] M Q :=
  JE_steps 1000 [2] (by decide) h
theorem b_B_hasPlaceOf_2 {E : Env0} {d : Nat} (x1 : Int32) (x2 : Int32) {M : Mem} {Q : Int32 → Mem → Prop} (h :
    ((M 1 4) ≤ x2 →
      ((0 : Int32) = 0 ∨ (0 : Int32) = 1) ∧ Q 0 M) ∧
    (¬ (M 1 4) ≤ x2 →
      vp_in x2 10 ∧
      (¬ (M 8 (Int32.toNatClampNeg x2)) = x1 →
        JE E d n_B_hasPlaceOf 2 [some (Sum.inr 1), some (Sum.inl x1), some (Sum.inl (x2 + 1))] [] M Q) ∧
      ((M 8 (Int32.toNatClampNeg x2)) = x1 →
        ((1 : Int32) = 0 ∨ (1 : Int32) = 1) ∧ Q 1 M))) : JE E (d) n_B_hasPlaceOf 2 [some (Sum.inr 1), some (Sum.inl x1), some (Sum.inl x2)] [] M Q :=
  JE_steps 1000 [2] (by decide) h
theorem b_B_nozzleOf_0 {E : Env0} {d : Nat} (x1 : Int32) {M : Mem} {Q : Int32 → Mem → Prop} (h :
    vp_in x1 10 ∧
    vp_in (M 8 (Int32.toNatClampNeg x1)) 8 ∧
    Q (M 4 (Int32.toNatClampNeg (M 8 (Int32.toNatClampNeg x1)))) M) : JE E (d) n_B_nozzleOf 0 [some (Sum.inr 1), some (Sum.inl x1)] [] M Q :=
  JE_steps 1000 [] (by decide) h
theorem b_R_append_0 {E : Env0} {d : Nat} (x1 : Int32) (x2 : Int32) {M : Mem} {Q : Int32 → Mem → Prop} (h :
    ((M 15 1) < 10 →
      (¬ x2 = 0 →
        vp_in (M 15 1) 10 ∧ 
        Q 0 (mset (mset (mset M 16 (Int32.toNatClampNeg (M 15 1)) (x1 + 16)) 15 2 ((M 15 2) ||| (1 <<< (x1 &&& 31)))) 15 1 ((M 15 1) + 1))) ∧
      (x2 = 0 →
        (¬ (M 15 1) = 0 →
          vp_in (M 15 1) 10 ∧ 
          Q 0 (mset (mset (mset M 16 (Int32.toNatClampNeg (M 15 1)) x1) 15 2 ((M 15 2) ||| (1 <<< (x1 &&& 31)))) 15 1 ((M 15 1) + 1))) ∧
        ((M 15 1) = 0 →
          vp_in (M 15 1) 10 ∧ 
          Q 0 (mset (mset (mset M 16 (Int32.toNatClampNeg (M 15 1)) (x1 + 16)) 15 2 ((M 15 2) ||| (1 <<< (x1 &&& 31)))) 15 1 ((M 15 1) + 1))))) ∧
    (¬ (M 15 1) < 10 →
      Q 0 M)) : JE E (d) n_R_append 0 [some (Sum.inr 15), some (Sum.inl x1), some (Sum.inl x2)] [] M Q :=
  JE_steps 1000 [] (by decide) h
theorem b_K_isGood_0 {E : Env0} {dd : Nat}  {M : Mem} {Q : Int32 → Mem → Prop} (h :
    (¬ (M 15 1) = (M 1 4) →
      ((0 : Int32) = 0 ∨ (0 : Int32) = 1) ∧ Q 0 M) ∧
    ((M 15 1) = (M 1 4) →
      CE E dd n_K_isInOrder [Sum.inr 17] M (fun r1 M1 =>
        (r1 = 0 →
          ((0 : Int32) = 0 ∨ (0 : Int32) = 1) ∧ Q 0 M1) ∧
        (¬ r1 = 0 →
          CE E dd n_K_hasGoodTours [Sum.inr 17] M1 (fun r2 M2 =>
            (r2 = 0 →
              ((0 : Int32) = 0 ∨ (0 : Int32) = 1) ∧ Q 0 M2) ∧
            (¬ r2 = 0 →
              CE E dd n_K_hasAllFeeders [Sum.inr 17] M2 (fun r3 M3 =>
                (r3 = 0 →
                  ((0 : Int32) = 0 ∨ (0 : Int32) = 1) ∧ Q 0 M3) ∧
                (¬ r3 = 0 →
                  ((1 : Int32) = 0 ∨ (1 : Int32) = 1) ∧ Q 1 M3)))))))) : JE E (dd + 1) n_K_isGood 0 [some (Sum.inr 17)] [] M Q :=
  JE_steps 1000 [] (by decide) h
theorem b_B_addPlace_0 {E : Env0} {d : Nat} (x1 : Int32) (x2 : Int32) (x3 : Int32) {M : Mem} {Q : Int32 → Mem → Prop} (h :
    ((M 1 4) < 10 →
      JE E d n_B_addPlace 20 [some (Sum.inr 1), some (Sum.inl x1), some (Sum.inl x2), some (Sum.inl x3), some (Sum.inl 0), some (Sum.inl 0), some (Sum.inl 0), none, none] [] M Q) ∧
    (¬ (M 1 4) < 10 →
      Q (-1) M)) : JE E (d) n_B_addPlace 0 [some (Sum.inr 1), some (Sum.inl x1), some (Sum.inl x2), some (Sum.inl x3), none, none, none, none, none] [] M Q :=
  JE_steps 1000 [20] (by decide) h
theorem b_B_addPlace_20 {E : Env0} {dd : Nat} (x1 : Int32) (x2 : Int32) (x3 : Int32) (x4 : Int32) (x5 : Int32) (x6 : Int32) (o7 : Option V) (o8 : Option V) {M : Mem} {Q : Int32 → Mem → Prop} (h :
    ((M 1 4) ≤ x6 →
      CE E dd n_B_withAllBefore [Sum.inr 1, Sum.inl x4] M (fun r1 M1 =>
        ((r1 &&& x5) = 0 →
          CE E dd n_B_putPlace [Sum.inr 1, Sum.inl x1, Sum.inl x2, Sum.inl x3, Sum.inl x4, Sum.inl x5] M1 (fun r2 M2 =>
            Q r2 M2)) ∧
        (¬ (r1 &&& x5) = 0 →
          Q (-1) M1))) ∧
    (¬ (M 1 4) ≤ x6 →
      vp_in x6 10 ∧
      vp_in (M 8 (Int32.toNatClampNeg x6)) 8 ∧
      vp_in x3 8 ∧
      vp_in x6 10 ∧
      vp_in x6 10 ∧
      CE E dd n_D_way [Sum.inl (M 6 (Int32.toNatClampNeg x6)), Sum.inl (M 7 (Int32.toNatClampNeg x6)), Sum.inl x1, Sum.inl x2] M (fun r3 M3 =>
        (((M 2 (Int32.toNatClampNeg (M 8 (Int32.toNatClampNeg x6)))) + (M 2 (Int32.toNatClampNeg x3))) ≤ r3 →
          ((((M 2 (Int32.toNatClampNeg (M 8 (Int32.toNatClampNeg x6)))) + (M 2 (Int32.toNatClampNeg x3))) + 2) < r3 →
            ((((M 2 (Int32.toNatClampNeg (M 8 (Int32.toNatClampNeg x6)))) + (M 2 (Int32.toNatClampNeg x3))) + 2) < r3 →
              JE E (dd + 1) n_B_addPlace 20 [some (Sum.inr 1), some (Sum.inl x1), some (Sum.inl x2), some (Sum.inl x3), some (Sum.inl x4), some (Sum.inl x5), some (Sum.inl (x6 + 1)), some (Sum.inl ((M 2 (Int32.toNatClampNeg (M 8 (Int32.toNatClampNeg x6)))) + (M 2 (Int32.toNatClampNeg x3)))), some (Sum.inl r3)] [] M3 Q) ∧
            (¬ (((M 2 (Int32.toNatClampNeg (M 8 (Int32.toNatClampNeg x6)))) + (M 2 (Int32.toNatClampNeg x3))) + 2) < r3 →
              vp_in x6 10 ∧
              vp_in (M3 8 (Int32.toNatClampNeg x6)) 8 ∧
              vp_in x3 8 ∧
              ((M3 3 (Int32.toNatClampNeg (M3 8 (Int32.toNatClampNeg x6)))) ≤ (M3 3 (Int32.toNatClampNeg x3)) →
                JE E (dd + 1) n_B_addPlace 20 [some (Sum.inr 1), some (Sum.inl x1), some (Sum.inl x2), some (Sum.inl x3), some (Sum.inl x4), some (Sum.inl x5), some (Sum.inl (x6 + 1)), some (Sum.inl ((M 2 (Int32.toNatClampNeg (M 8 (Int32.toNatClampNeg x6)))) + (M 2 (Int32.toNatClampNeg x3)))), some (Sum.inl r3)] [] M3 Q) ∧
              (¬ (M3 3 (Int32.toNatClampNeg (M3 8 (Int32.toNatClampNeg x6)))) ≤ (M3 3 (Int32.toNatClampNeg x3)) →
                JE E (dd + 1) n_B_addPlace 20 [some (Sum.inr 1), some (Sum.inl x1), some (Sum.inl x2), some (Sum.inl x3), some (Sum.inl x4), some (Sum.inl (x5 ||| (1 <<< (x6 &&& 31)))), some (Sum.inl (x6 + 1)), some (Sum.inl ((M 2 (Int32.toNatClampNeg (M 8 (Int32.toNatClampNeg x6)))) + (M 2 (Int32.toNatClampNeg x3)))), some (Sum.inl r3)] [] M3 Q))) ∧
          (¬ (((M 2 (Int32.toNatClampNeg (M 8 (Int32.toNatClampNeg x6)))) + (M 2 (Int32.toNatClampNeg x3))) + 2) < r3 →
            vp_in x6 10 ∧
            vp_in (M3 8 (Int32.toNatClampNeg x6)) 8 ∧
            vp_in x3 8 ∧
            ((M3 3 (Int32.toNatClampNeg x3)) ≤ (M3 3 (Int32.toNatClampNeg (M3 8 (Int32.toNatClampNeg x6)))) →
              ((((M 2 (Int32.toNatClampNeg (M 8 (Int32.toNatClampNeg x6)))) + (M 2 (Int32.toNatClampNeg x3))) + 2) < r3 →
                JE E (dd + 1) n_B_addPlace 20 [some (Sum.inr 1), some (Sum.inl x1), some (Sum.inl x2), some (Sum.inl x3), some (Sum.inl x4), some (Sum.inl x5), some (Sum.inl (x6 + 1)), some (Sum.inl ((M 2 (Int32.toNatClampNeg (M 8 (Int32.toNatClampNeg x6)))) + (M 2 (Int32.toNatClampNeg x3)))), some (Sum.inl r3)] [] M3 Q) ∧
              (¬ (((M 2 (Int32.toNatClampNeg (M 8 (Int32.toNatClampNeg x6)))) + (M 2 (Int32.toNatClampNeg x3))) + 2) < r3 →
                vp_in x6 10 ∧
                vp_in (M3 8 (Int32.toNatClampNeg x6)) 8 ∧
                vp_in x3 8 ∧
                ((M3 3 (Int32.toNatClampNeg (M3 8 (Int32.toNatClampNeg x6)))) ≤ (M3 3 (Int32.toNatClampNeg x3)) →
                  JE E (dd + 1) n_B_addPlace 20 [some (Sum.inr 1), some (Sum.inl x1), some (Sum.inl x2), some (Sum.inl x3), some (Sum.inl x4), some (Sum.inl x5), some (Sum.inl (x6 + 1)), some (Sum.inl ((M 2 (Int32.toNatClampNeg (M 8 (Int32.toNatClampNeg x6)))) + (M 2 (Int32.toNatClampNeg x3)))), some (Sum.inl r3)] [] M3 Q) ∧
                (¬ (M3 3 (Int32.toNatClampNeg (M3 8 (Int32.toNatClampNeg x6)))) ≤ (M3 3 (Int32.toNatClampNeg x3)) →
                  JE E (dd + 1) n_B_addPlace 20 [some (Sum.inr 1), some (Sum.inl x1), some (Sum.inl x2), some (Sum.inl x3), some (Sum.inl x4), some (Sum.inl (x5 ||| (1 <<< (x6 &&& 31)))), some (Sum.inl (x6 + 1)), some (Sum.inl ((M 2 (Int32.toNatClampNeg (M 8 (Int32.toNatClampNeg x6)))) + (M 2 (Int32.toNatClampNeg x3)))), some (Sum.inl r3)] [] M3 Q))) ∧
            (¬ (M3 3 (Int32.toNatClampNeg x3)) ≤ (M3 3 (Int32.toNatClampNeg (M3 8 (Int32.toNatClampNeg x6)))) →
              ((((M 2 (Int32.toNatClampNeg (M 8 (Int32.toNatClampNeg x6)))) + (M 2 (Int32.toNatClampNeg x3))) + 2) < r3 →
                JE E (dd + 1) n_B_addPlace 20 [some (Sum.inr 1), some (Sum.inl x1), some (Sum.inl x2), some (Sum.inl x3), some (Sum.inl (x4 ||| (1 <<< (x6 &&& 31)))), some (Sum.inl x5), some (Sum.inl (x6 + 1)), some (Sum.inl ((M 2 (Int32.toNatClampNeg (M 8 (Int32.toNatClampNeg x6)))) + (M 2 (Int32.toNatClampNeg x3)))), some (Sum.inl r3)] [] M3 Q) ∧
              (¬ (((M 2 (Int32.toNatClampNeg (M 8 (Int32.toNatClampNeg x6)))) + (M 2 (Int32.toNatClampNeg x3))) + 2) < r3 →
                vp_in x6 10 ∧
                vp_in (M3 8 (Int32.toNatClampNeg x6)) 8 ∧
                vp_in x3 8 ∧
                ((M3 3 (Int32.toNatClampNeg (M3 8 (Int32.toNatClampNeg x6)))) ≤ (M3 3 (Int32.toNatClampNeg x3)) →
                  JE E (dd + 1) n_B_addPlace 20 [some (Sum.inr 1), some (Sum.inl x1), some (Sum.inl x2), some (Sum.inl x3), some (Sum.inl (x4 ||| (1 <<< (x6 &&& 31)))), some (Sum.inl x5), some (Sum.inl (x6 + 1)), some (Sum.inl ((M 2 (Int32.toNatClampNeg (M 8 (Int32.toNatClampNeg x6)))) + (M 2 (Int32.toNatClampNeg x3)))), some (Sum.inl r3)] [] M3 Q) ∧
                (¬ (M3 3 (Int32.toNatClampNeg (M3 8 (Int32.toNatClampNeg x6)))) ≤ (M3 3 (Int32.toNatClampNeg x3)) →
                  JE E (dd + 1) n_B_addPlace 20 [some (Sum.inr 1), some (Sum.inl x1), some (Sum.inl x2), some (Sum.inl x3), some (Sum.inl (x4 ||| (1 <<< (x6 &&& 31)))), some (Sum.inl (x5 ||| (1 <<< (x6 &&& 31)))), some (Sum.inl (x6 + 1)), some (Sum.inl ((M 2 (Int32.toNatClampNeg (M 8 (Int32.toNatClampNeg x6)))) + (M 2 (Int32.toNatClampNeg x3)))), some (Sum.inl r3)] [] M3 Q))))) ∧
        (¬ ((M 2 (Int32.toNatClampNeg (M 8 (Int32.toNatClampNeg x6)))) + (M 2 (Int32.toNatClampNeg x3))) ≤ r3 →
          Q (-1) M3)))) : JE E (dd + 1) n_B_addPlace 20 [some (Sum.inr 1), some (Sum.inl x1), some (Sum.inl x2), some (Sum.inl x3), some (Sum.inl x4), some (Sum.inl x5), some (Sum.inl x6), o7, o8] [] M Q :=
  JE_steps 1000 [20] (by decide) h
