/-! printed by wip/gen/lawblocks.py: what the law owes at its cuts -/
theorem b_L_law_18 {SL : Nat} {CJ : Nat → List V → Mem → (Int32 → Mem → Prop) → Prop} {RQ : Int32 → Mem → Prop} {K : Nat → Lc → List V → Mem → Prop} (x3 : Int32) {M : Mem} (h :
    ¬ SL = 0 ∧
    (((nI (SL - 1)) - 6) < x3 →
      Z01 1 ∧ RQ 1 M) ∧
    (¬ ((nI (SL - 1)) - 6) < x3 →
      vp_in x3 (SL - 1) ∧
      (((M 1000 (Int32.toNatClampNeg x3)) &&& 31) = 0 →
        K 128 [some (Sum.inr 1000), some (Sum.inr 0), some (Sum.inr 31), some (Sum.inl x3)] [] M) ∧ (¬ ((M 1000 (Int32.toNatClampNeg x3)) &&& 31) = 0 →
      (((M 1000 (Int32.toNatClampNeg x3)) &&& 31) = 1 →
        K 207 [some (Sum.inr 1000), some (Sum.inr 0), some (Sum.inr 31), some (Sum.inl x3)] [] M) ∧ (¬ ((M 1000 (Int32.toNatClampNeg x3)) &&& 31) = 1 →
      (((M 1000 (Int32.toNatClampNeg x3)) &&& 31) = 2 →
        K 250 [some (Sum.inr 1000), some (Sum.inr 0), some (Sum.inr 31), some (Sum.inl x3)] [] M) ∧ (¬ ((M 1000 (Int32.toNatClampNeg x3)) &&& 31) = 2 →
      (((M 1000 (Int32.toNatClampNeg x3)) &&& 31) = 3 →
        K 283 [some (Sum.inr 1000), some (Sum.inr 0), some (Sum.inr 31), some (Sum.inl x3)] [] M) ∧ (¬ ((M 1000 (Int32.toNatClampNeg x3)) &&& 31) = 3 →
      (((M 1000 (Int32.toNatClampNeg x3)) &&& 31) = 4 →
        K 326 [some (Sum.inr 1000), some (Sum.inr 0), some (Sum.inr 31), some (Sum.inl x3)] [] M) ∧ (¬ ((M 1000 (Int32.toNatClampNeg x3)) &&& 31) = 4 →
      (((M 1000 (Int32.toNatClampNeg x3)) &&& 31) = 5 →
        K 389 [some (Sum.inr 1000), some (Sum.inr 0), some (Sum.inr 31), some (Sum.inl x3)] [] M) ∧ (¬ ((M 1000 (Int32.toNatClampNeg x3)) &&& 31) = 5 →
      (((M 1000 (Int32.toNatClampNeg x3)) &&& 31) = 6 →
        K 422 [some (Sum.inr 1000), some (Sum.inr 0), some (Sum.inr 31), some (Sum.inl x3)] [] M) ∧ (¬ ((M 1000 (Int32.toNatClampNeg x3)) &&& 31) = 6 →
      (((M 1000 (Int32.toNatClampNeg x3)) &&& 31) = 7 →
        K 471 [some (Sum.inr 1000), some (Sum.inr 0), some (Sum.inr 31), some (Sum.inl x3)] [] M) ∧ (¬ ((M 1000 (Int32.toNatClampNeg x3)) &&& 31) = 7 →
      (((M 1000 (Int32.toNatClampNeg x3)) &&& 31) = 8 →
        K 482 [some (Sum.inr 1000), some (Sum.inr 0), some (Sum.inr 31), some (Sum.inl x3)] [] M) ∧ (¬ ((M 1000 (Int32.toNatClampNeg x3)) &&& 31) = 8 →
      (((M 1000 (Int32.toNatClampNeg x3)) &&& 31) = 9 →
        K 495 [some (Sum.inr 1000), some (Sum.inr 0), some (Sum.inr 31), some (Sum.inl x3)] [] M) ∧ (¬ ((M 1000 (Int32.toNatClampNeg x3)) &&& 31) = 9 →
      (((M 1000 (Int32.toNatClampNeg x3)) &&& 31) = 10 →
        K 508 [some (Sum.inr 1000), some (Sum.inr 0), some (Sum.inr 31), some (Sum.inl x3)] [] M) ∧ (¬ ((M 1000 (Int32.toNatClampNeg x3)) &&& 31) = 10 →
      (((M 1000 (Int32.toNatClampNeg x3)) &&& 31) = 11 →
        K 521 [some (Sum.inr 1000), some (Sum.inr 0), some (Sum.inr 31), some (Sum.inl x3)] [] M) ∧ (¬ ((M 1000 (Int32.toNatClampNeg x3)) &&& 31) = 11 →
      (((M 1000 (Int32.toNatClampNeg x3)) &&& 31) = 12 →
        K 544 [some (Sum.inr 1000), some (Sum.inr 0), some (Sum.inr 31), some (Sum.inl x3)] [] M) ∧ (¬ ((M 1000 (Int32.toNatClampNeg x3)) &&& 31) = 12 →
      (((M 1000 (Int32.toNatClampNeg x3)) &&& 31) = 13 →
        K 557 [some (Sum.inr 1000), some (Sum.inr 0), some (Sum.inr 31), some (Sum.inl x3)] [] M) ∧ (¬ ((M 1000 (Int32.toNatClampNeg x3)) &&& 31) = 13 →
      (((M 1000 (Int32.toNatClampNeg x3)) &&& 31) = 14 →
        K 580 [some (Sum.inr 1000), some (Sum.inr 0), some (Sum.inr 31), some (Sum.inl x3)] [] M) ∧ (¬ ((M 1000 (Int32.toNatClampNeg x3)) &&& 31) = 14 →
      (((M 1000 (Int32.toNatClampNeg x3)) &&& 31) = 15 →
        K 603 [some (Sum.inr 1000), some (Sum.inr 0), some (Sum.inr 31), some (Sum.inl x3)] [] M) ∧ (¬ ((M 1000 (Int32.toNatClampNeg x3)) &&& 31) = 15 →
      (((M 1000 (Int32.toNatClampNeg x3)) &&& 31) = 16 →
        K 616 [some (Sum.inr 1000), some (Sum.inr 0), some (Sum.inr 31), some (Sum.inl x3)] [] M) ∧ (¬ ((M 1000 (Int32.toNatClampNeg x3)) &&& 31) = 16 →
      (((M 1000 (Int32.toNatClampNeg x3)) &&& 31) = 17 →
        K 639 [some (Sum.inr 1000), some (Sum.inr 0), some (Sum.inr 31), some (Sum.inl x3)] [] M) ∧ (¬ ((M 1000 (Int32.toNatClampNeg x3)) &&& 31) = 17 →
      (((M 1000 (Int32.toNatClampNeg x3)) &&& 31) = 18 →
        K 662 [some (Sum.inr 1000), some (Sum.inr 0), some (Sum.inr 31), some (Sum.inl x3)] [] M) ∧ (¬ ((M 1000 (Int32.toNatClampNeg x3)) &&& 31) = 18 →
      (((M 1000 (Int32.toNatClampNeg x3)) &&& 31) = 19 →
        K 695 [some (Sum.inr 1000), some (Sum.inr 0), some (Sum.inr 31), some (Sum.inl x3)] [] M) ∧ (¬ ((M 1000 (Int32.toNatClampNeg x3)) &&& 31) = 19 →
        K 718 [some (Sum.inr 1000), some (Sum.inr 0), some (Sum.inr 31), some (Sum.inl x3)] [] M)))))))))))))))))))))) : stepsJ SL CJ RQ K (mCode n_L_law) (mRet n_L_law) [18, 128, 207, 250, 283, 326, 389, 422, 471, 482, 495, 508, 521, 544, 557, 580, 603, 616, 639, 662, 695, 718] 1000 18 [some (Sum.inr 1000), some (Sum.inr 0), some (Sum.inr 31), some (Sum.inl x3)] [] M := h
theorem b_L_law_128 {SL : Nat} {CJ : Nat → List V → Mem → (Int32 → Mem → Prop) → Prop} {RQ : Int32 → Mem → Prop} {K : Nat → Lc → List V → Mem → Prop} (x3 : Int32) {M : Mem} (h :
    vp_in (x3 + 1) (SL - 1) ∧
    vp_in (x3 + 2) (SL - 1) ∧
    vp_in (x3 + 3) (SL - 1) ∧
    vp_in (x3 + 4) (SL - 1) ∧
    vp_in (x3 + 5) (SL - 1) ∧
    ((M 1000 (Int32.toNatClampNeg (x3 + 5))) = 0 →
      CJ n_D_kind [Sum.inr 0, Sum.inl (M 1000 (Int32.toNatClampNeg (x3 + 1))), Sum.inl (M 1000 (Int32.toNatClampNeg (x3 + 2))), Sum.inl (M 1000 (Int32.toNatClampNeg (x3 + 3))), Sum.inl (M 1000 (Int32.toNatClampNeg (x3 + 4))), Sum.inl 0] M (fun r1 M1 =>
        vp_in (x3 + 1) (SL - 1) ∧
        vp_in (x3 + 2) (SL - 1) ∧
        vp_in (x3 + 3) (SL - 1) ∧
        vp_in (x3 + 4) (SL - 1) ∧
        vp_in (x3 + 5) (SL - 1) ∧
        ((M1 1000 (Int32.toNatClampNeg (x3 + 5))) = 0 →
          CJ n_M_kind [Sum.inr 31, Sum.inl (M1 1000 (Int32.toNatClampNeg (x3 + 1))), Sum.inl (M1 1000 (Int32.toNatClampNeg (x3 + 2))), Sum.inl (M1 1000 (Int32.toNatClampNeg (x3 + 3))), Sum.inl (M1 1000 (Int32.toNatClampNeg (x3 + 4))), Sum.inl 0] M1 (fun r2 M2 =>
            (r1 = r2 →
              K 718 [some (Sum.inr 1000), some (Sum.inr 0), some (Sum.inr 31), some (Sum.inl x3)] [] M2) ∧
            (¬ r1 = r2 →
              Z01 0 ∧ RQ 0 M2))) ∧
        (¬ (M1 1000 (Int32.toNatClampNeg (x3 + 5))) = 0 →
          CJ n_M_kind [Sum.inr 31, Sum.inl (M1 1000 (Int32.toNatClampNeg (x3 + 1))), Sum.inl (M1 1000 (Int32.toNatClampNeg (x3 + 2))), Sum.inl (M1 1000 (Int32.toNatClampNeg (x3 + 3))), Sum.inl (M1 1000 (Int32.toNatClampNeg (x3 + 4))), Sum.inl 1] M1 (fun r3 M3 =>
            (r1 = r3 →
              K 718 [some (Sum.inr 1000), some (Sum.inr 0), some (Sum.inr 31), some (Sum.inl x3)] [] M3) ∧
            (¬ r1 = r3 →
              Z01 0 ∧ RQ 0 M3))))) ∧
    (¬ (M 1000 (Int32.toNatClampNeg (x3 + 5))) = 0 →
      CJ n_D_kind [Sum.inr 0, Sum.inl (M 1000 (Int32.toNatClampNeg (x3 + 1))), Sum.inl (M 1000 (Int32.toNatClampNeg (x3 + 2))), Sum.inl (M 1000 (Int32.toNatClampNeg (x3 + 3))), Sum.inl (M 1000 (Int32.toNatClampNeg (x3 + 4))), Sum.inl 1] M (fun r4 M4 =>
        vp_in (x3 + 1) (SL - 1) ∧
        vp_in (x3 + 2) (SL - 1) ∧
        vp_in (x3 + 3) (SL - 1) ∧
        vp_in (x3 + 4) (SL - 1) ∧
        vp_in (x3 + 5) (SL - 1) ∧
        ((M4 1000 (Int32.toNatClampNeg (x3 + 5))) = 0 →
          CJ n_M_kind [Sum.inr 31, Sum.inl (M4 1000 (Int32.toNatClampNeg (x3 + 1))), Sum.inl (M4 1000 (Int32.toNatClampNeg (x3 + 2))), Sum.inl (M4 1000 (Int32.toNatClampNeg (x3 + 3))), Sum.inl (M4 1000 (Int32.toNatClampNeg (x3 + 4))), Sum.inl 0] M4 (fun r5 M5 =>
            (r4 = r5 →
              K 718 [some (Sum.inr 1000), some (Sum.inr 0), some (Sum.inr 31), some (Sum.inl x3)] [] M5) ∧
            (¬ r4 = r5 →
              Z01 0 ∧ RQ 0 M5))) ∧
        (¬ (M4 1000 (Int32.toNatClampNeg (x3 + 5))) = 0 →
          CJ n_M_kind [Sum.inr 31, Sum.inl (M4 1000 (Int32.toNatClampNeg (x3 + 1))), Sum.inl (M4 1000 (Int32.toNatClampNeg (x3 + 2))), Sum.inl (M4 1000 (Int32.toNatClampNeg (x3 + 3))), Sum.inl (M4 1000 (Int32.toNatClampNeg (x3 + 4))), Sum.inl 1] M4 (fun r6 M6 =>
            (r4 = r6 →
              K 718 [some (Sum.inr 1000), some (Sum.inr 0), some (Sum.inr 31), some (Sum.inl x3)] [] M6) ∧
            (¬ r4 = r6 →
              Z01 0 ∧ RQ 0 M6)))))) : stepsJ SL CJ RQ K (mCode n_L_law) (mRet n_L_law) [18, 128, 207, 250, 283, 326, 389, 422, 471, 482, 495, 508, 521, 544, 557, 580, 603, 616, 639, 662, 695, 718] 1000 128 [some (Sum.inr 1000), some (Sum.inr 0), some (Sum.inr 31), some (Sum.inl x3)] [] M := h
theorem b_L_law_207 {SL : Nat} {CJ : Nat → List V → Mem → (Int32 → Mem → Prop) → Prop} {RQ : Int32 → Mem → Prop} {K : Nat → Lc → List V → Mem → Prop} (x3 : Int32) {M : Mem} (h :
    vp_in (x3 + 1) (SL - 1) ∧
    vp_in (x3 + 2) (SL - 1) ∧
    vp_in (x3 + 3) (SL - 1) ∧
    CJ n_D_place [Sum.inr 0, Sum.inl (M 1000 (Int32.toNatClampNeg (x3 + 1))), Sum.inl (M 1000 (Int32.toNatClampNeg (x3 + 2))), Sum.inl (M 1000 (Int32.toNatClampNeg (x3 + 3)))] M (fun r1 M1 =>
      vp_in (x3 + 1) (SL - 1) ∧
      vp_in (x3 + 2) (SL - 1) ∧
      vp_in (x3 + 3) (SL - 1) ∧
      CJ n_M_place [Sum.inr 31, Sum.inl (M1 1000 (Int32.toNatClampNeg (x3 + 1))), Sum.inl (M1 1000 (Int32.toNatClampNeg (x3 + 2))), Sum.inl (M1 1000 (Int32.toNatClampNeg (x3 + 3)))] M1 (fun r2 M2 =>
        (r1 = r2 →
          K 718 [some (Sum.inr 1000), some (Sum.inr 0), some (Sum.inr 31), some (Sum.inl x3)] [] M2) ∧
        (¬ r1 = r2 →
          Z01 0 ∧ RQ 0 M2)))) : stepsJ SL CJ RQ K (mCode n_L_law) (mRet n_L_law) [18, 128, 207, 250, 283, 326, 389, 422, 471, 482, 495, 508, 521, 544, 557, 580, 603, 616, 639, 662, 695, 718] 1000 207 [some (Sum.inr 1000), some (Sum.inr 0), some (Sum.inr 31), some (Sum.inl x3)] [] M := h
theorem b_L_law_250 {SL : Nat} {CJ : Nat → List V → Mem → (Int32 → Mem → Prop) → Prop} {RQ : Int32 → Mem → Prop} {K : Nat → Lc → List V → Mem → Prop} (x3 : Int32) {M : Mem} (h :
    vp_in (x3 + 1) (SL - 1) ∧
    vp_in (x3 + 2) (SL - 1) ∧
    CJ n_D_late [Sum.inr 0, Sum.inl (M 1000 (Int32.toNatClampNeg (x3 + 1))), Sum.inl (M 1000 (Int32.toNatClampNeg (x3 + 2)))] M (fun r1 M1 =>
      vp_in (x3 + 1) (SL - 1) ∧
      vp_in (x3 + 2) (SL - 1) ∧
      CJ n_M_late [Sum.inr 31, Sum.inl (M1 1000 (Int32.toNatClampNeg (x3 + 1))), Sum.inl (M1 1000 (Int32.toNatClampNeg (x3 + 2)))] M1 (fun r2 M2 =>
        (r1 = r2 →
          K 718 [some (Sum.inr 1000), some (Sum.inr 0), some (Sum.inr 31), some (Sum.inl x3)] [] M2) ∧
        (¬ r1 = r2 →
          Z01 0 ∧ RQ 0 M2)))) : stepsJ SL CJ RQ K (mCode n_L_law) (mRet n_L_law) [18, 128, 207, 250, 283, 326, 389, 422, 471, 482, 495, 508, 521, 544, 557, 580, 603, 616, 639, 662, 695, 718] 1000 250 [some (Sum.inr 1000), some (Sum.inr 0), some (Sum.inr 31), some (Sum.inl x3)] [] M := h
theorem b_L_law_283 {SL : Nat} {CJ : Nat → List V → Mem → (Int32 → Mem → Prop) → Prop} {RQ : Int32 → Mem → Prop} {K : Nat → Lc → List V → Mem → Prop} (x3 : Int32) {M : Mem} (h :
    vp_in (x3 + 1) (SL - 1) ∧
    vp_in (x3 + 2) (SL - 1) ∧
    vp_in (x3 + 3) (SL - 1) ∧
    CJ n_D_feeder [Sum.inr 0, Sum.inl (M 1000 (Int32.toNatClampNeg (x3 + 1))), Sum.inl (M 1000 (Int32.toNatClampNeg (x3 + 2))), Sum.inl (M 1000 (Int32.toNatClampNeg (x3 + 3)))] M (fun r1 M1 =>
      vp_in (x3 + 1) (SL - 1) ∧
      vp_in (x3 + 2) (SL - 1) ∧
      vp_in (x3 + 3) (SL - 1) ∧
      CJ n_M_feeder [Sum.inr 31, Sum.inl (M1 1000 (Int32.toNatClampNeg (x3 + 1))), Sum.inl (M1 1000 (Int32.toNatClampNeg (x3 + 2))), Sum.inl (M1 1000 (Int32.toNatClampNeg (x3 + 3)))] M1 (fun r2 M2 =>
        (r1 = r2 →
          K 718 [some (Sum.inr 1000), some (Sum.inr 0), some (Sum.inr 31), some (Sum.inl x3)] [] M2) ∧
        (¬ r1 = r2 →
          Z01 0 ∧ RQ 0 M2)))) : stepsJ SL CJ RQ K (mCode n_L_law) (mRet n_L_law) [18, 128, 207, 250, 283, 326, 389, 422, 471, 482, 495, 508, 521, 544, 557, 580, 603, 616, 639, 662, 695, 718] 1000 283 [some (Sum.inr 1000), some (Sum.inr 0), some (Sum.inr 31), some (Sum.inl x3)] [] M := h
theorem b_L_law_326 {SL : Nat} {CJ : Nat → List V → Mem → (Int32 → Mem → Prop) → Prop} {RQ : Int32 → Mem → Prop} {K : Nat → Lc → List V → Mem → Prop} (x3 : Int32) {M : Mem} (h :
    vp_in (x3 + 1) (SL - 1) ∧
    vp_in (x3 + 2) (SL - 1) ∧
    vp_in (x3 + 3) (SL - 1) ∧
    vp_in (x3 + 4) (SL - 1) ∧
    vp_in (x3 + 5) (SL - 1) ∧
    CJ n_D_machine [Sum.inr 0, Sum.inl (M 1000 (Int32.toNatClampNeg (x3 + 1))), Sum.inl (M 1000 (Int32.toNatClampNeg (x3 + 2))), Sum.inl (M 1000 (Int32.toNatClampNeg (x3 + 3))), Sum.inl (M 1000 (Int32.toNatClampNeg (x3 + 4))), Sum.inl (M 1000 (Int32.toNatClampNeg (x3 + 5)))] M (fun r1 M1 =>
      vp_in (x3 + 1) (SL - 1) ∧
      vp_in (x3 + 2) (SL - 1) ∧
      vp_in (x3 + 3) (SL - 1) ∧
      vp_in (x3 + 4) (SL - 1) ∧
      vp_in (x3 + 5) (SL - 1) ∧
      CJ n_M_machine [Sum.inr 31, Sum.inl (M1 1000 (Int32.toNatClampNeg (x3 + 1))), Sum.inl (M1 1000 (Int32.toNatClampNeg (x3 + 2))), Sum.inl (M1 1000 (Int32.toNatClampNeg (x3 + 3))), Sum.inl (M1 1000 (Int32.toNatClampNeg (x3 + 4))), Sum.inl (M1 1000 (Int32.toNatClampNeg (x3 + 5)))] M1 (fun r2 M2 =>
        (r1 = r2 →
          K 718 [some (Sum.inr 1000), some (Sum.inr 0), some (Sum.inr 31), some (Sum.inl x3)] [] M2) ∧
        (¬ r1 = r2 →
          Z01 0 ∧ RQ 0 M2)))) : stepsJ SL CJ RQ K (mCode n_L_law) (mRet n_L_law) [18, 128, 207, 250, 283, 326, 389, 422, 471, 482, 495, 508, 521, 544, 557, 580, 603, 616, 639, 662, 695, 718] 1000 326 [some (Sum.inr 1000), some (Sum.inr 0), some (Sum.inr 31), some (Sum.inl x3)] [] M := h
theorem b_L_law_389 {SL : Nat} {CJ : Nat → List V → Mem → (Int32 → Mem → Prop) → Prop} {RQ : Int32 → Mem → Prop} {K : Nat → Lc → List V → Mem → Prop} (x3 : Int32) {M : Mem} (h :
    vp_in (x3 + 1) (SL - 1) ∧
    vp_in (x3 + 2) (SL - 1) ∧
    CJ n_D_ahead [Sum.inr 0, Sum.inl (M 1000 (Int32.toNatClampNeg (x3 + 1))), Sum.inl (M 1000 (Int32.toNatClampNeg (x3 + 2)))] M (fun r1 M1 =>
      vp_in (x3 + 1) (SL - 1) ∧
      vp_in (x3 + 2) (SL - 1) ∧
      CJ n_M_ahead [Sum.inr 31, Sum.inl (M1 1000 (Int32.toNatClampNeg (x3 + 1))), Sum.inl (M1 1000 (Int32.toNatClampNeg (x3 + 2)))] M1 (fun r2 M2 =>
        (r1 = r2 →
          K 718 [some (Sum.inr 1000), some (Sum.inr 0), some (Sum.inr 31), some (Sum.inl x3)] [] M2) ∧
        (¬ r1 = r2 →
          Z01 0 ∧ RQ 0 M2)))) : stepsJ SL CJ RQ K (mCode n_L_law) (mRet n_L_law) [18, 128, 207, 250, 283, 326, 389, 422, 471, 482, 495, 508, 521, 544, 557, 580, 603, 616, 639, 662, 695, 718] 1000 389 [some (Sum.inr 1000), some (Sum.inr 0), some (Sum.inr 31), some (Sum.inl x3)] [] M := h
theorem b_L_law_422 {SL : Nat} {CJ : Nat → List V → Mem → (Int32 → Mem → Prop) → Prop} {RQ : Int32 → Mem → Prop} {K : Nat → Lc → List V → Mem → Prop} (x3 : Int32) {M : Mem} (h :
    vp_in (x3 + 1) (SL - 1) ∧
    vp_in (x3 + 2) (SL - 1) ∧
    ((M 1000 (Int32.toNatClampNeg (x3 + 2))) = 0 →
      CJ n_D_then [Sum.inr 0, Sum.inl (M 1000 (Int32.toNatClampNeg (x3 + 1))), Sum.inl 0] M (fun r1 M1 =>
        vp_in (x3 + 1) (SL - 1) ∧
        vp_in (x3 + 2) (SL - 1) ∧
        ((M1 1000 (Int32.toNatClampNeg (x3 + 2))) = 0 →
          CJ n_M_then [Sum.inr 31, Sum.inl (M1 1000 (Int32.toNatClampNeg (x3 + 1))), Sum.inl 0] M1 (fun r2 M2 =>
            (r1 = r2 →
              K 718 [some (Sum.inr 1000), some (Sum.inr 0), some (Sum.inr 31), some (Sum.inl x3)] [] M2) ∧
            (¬ r1 = r2 →
              Z01 0 ∧ RQ 0 M2))) ∧
        (¬ (M1 1000 (Int32.toNatClampNeg (x3 + 2))) = 0 →
          CJ n_M_then [Sum.inr 31, Sum.inl (M1 1000 (Int32.toNatClampNeg (x3 + 1))), Sum.inl 1] M1 (fun r3 M3 =>
            (r1 = r3 →
              K 718 [some (Sum.inr 1000), some (Sum.inr 0), some (Sum.inr 31), some (Sum.inl x3)] [] M3) ∧
            (¬ r1 = r3 →
              Z01 0 ∧ RQ 0 M3))))) ∧
    (¬ (M 1000 (Int32.toNatClampNeg (x3 + 2))) = 0 →
      CJ n_D_then [Sum.inr 0, Sum.inl (M 1000 (Int32.toNatClampNeg (x3 + 1))), Sum.inl 1] M (fun r4 M4 =>
        vp_in (x3 + 1) (SL - 1) ∧
        vp_in (x3 + 2) (SL - 1) ∧
        ((M4 1000 (Int32.toNatClampNeg (x3 + 2))) = 0 →
          CJ n_M_then [Sum.inr 31, Sum.inl (M4 1000 (Int32.toNatClampNeg (x3 + 1))), Sum.inl 0] M4 (fun r5 M5 =>
            (r4 = r5 →
              K 718 [some (Sum.inr 1000), some (Sum.inr 0), some (Sum.inr 31), some (Sum.inl x3)] [] M5) ∧
            (¬ r4 = r5 →
              Z01 0 ∧ RQ 0 M5))) ∧
        (¬ (M4 1000 (Int32.toNatClampNeg (x3 + 2))) = 0 →
          CJ n_M_then [Sum.inr 31, Sum.inl (M4 1000 (Int32.toNatClampNeg (x3 + 1))), Sum.inl 1] M4 (fun r6 M6 =>
            (r4 = r6 →
              K 718 [some (Sum.inr 1000), some (Sum.inr 0), some (Sum.inr 31), some (Sum.inl x3)] [] M6) ∧
            (¬ r4 = r6 →
              Z01 0 ∧ RQ 0 M6)))))) : stepsJ SL CJ RQ K (mCode n_L_law) (mRet n_L_law) [18, 128, 207, 250, 283, 326, 389, 422, 471, 482, 495, 508, 521, 544, 557, 580, 603, 616, 639, 662, 695, 718] 1000 422 [some (Sum.inr 1000), some (Sum.inr 0), some (Sum.inr 31), some (Sum.inl x3)] [] M := h
theorem b_L_law_471 {SL : Nat} {CJ : Nat → List V → Mem → (Int32 → Mem → Prop) → Prop} {RQ : Int32 → Mem → Prop} {K : Nat → Lc → List V → Mem → Prop} (x3 : Int32) {M : Mem} (h :
    CJ n_D_clear [Sum.inr 0] M (fun r1 M1 =>
      CJ n_M_clear [Sum.inr 31] M1 (fun r2 M2 =>
        K 718 [some (Sum.inr 1000), some (Sum.inr 0), some (Sum.inr 31), some (Sum.inl x3)] [] M2))) : stepsJ SL CJ RQ K (mCode n_L_law) (mRet n_L_law) [18, 128, 207, 250, 283, 326, 389, 422, 471, 482, 495, 508, 521, 544, 557, 580, 603, 616, 639, 662, 695, 718] 1000 471 [some (Sum.inr 1000), some (Sum.inr 0), some (Sum.inr 31), some (Sum.inl x3)] [] M := h
theorem b_L_law_482 {SL : Nat} {CJ : Nat → List V → Mem → (Int32 → Mem → Prop) → Prop} {RQ : Int32 → Mem → Prop} {K : Nat → Lc → List V → Mem → Prop} (x3 : Int32) {M : Mem} (h :
    CJ n_D_good [Sum.inr 0] M (fun r1 M1 =>
      CJ n_M_good [Sum.inr 31] M1 (fun r2 M2 =>
        (r1 = r2 →
          K 718 [some (Sum.inr 1000), some (Sum.inr 0), some (Sum.inr 31), some (Sum.inl x3)] [] M2) ∧
        (¬ r1 = r2 →
          Z01 0 ∧ RQ 0 M2)))) : stepsJ SL CJ RQ K (mCode n_L_law) (mRet n_L_law) [18, 128, 207, 250, 283, 326, 389, 422, 471, 482, 495, 508, 521, 544, 557, 580, 603, 616, 639, 662, 695, 718] 1000 482 [some (Sum.inr 1000), some (Sum.inr 0), some (Sum.inr 31), some (Sum.inl x3)] [] M := h
theorem b_L_law_495 {SL : Nat} {CJ : Nat → List V → Mem → (Int32 → Mem → Prop) → Prop} {RQ : Int32 → Mem → Prop} {K : Nat → Lc → List V → Mem → Prop} (x3 : Int32) {M : Mem} (h :
    CJ n_D_ticks [Sum.inr 0] M (fun r1 M1 =>
      CJ n_M_ticks [Sum.inr 31] M1 (fun r2 M2 =>
        (r1 = r2 →
          K 718 [some (Sum.inr 1000), some (Sum.inr 0), some (Sum.inr 31), some (Sum.inl x3)] [] M2) ∧
        (¬ r1 = r2 →
          Z01 0 ∧ RQ 0 M2)))) : stepsJ SL CJ RQ K (mCode n_L_law) (mRet n_L_law) [18, 128, 207, 250, 283, 326, 389, 422, 471, 482, 495, 508, 521, 544, 557, 580, 603, 616, 639, 662, 695, 718] 1000 495 [some (Sum.inr 1000), some (Sum.inr 0), some (Sum.inr 31), some (Sum.inl x3)] [] M := h
theorem b_L_law_508 {SL : Nat} {CJ : Nat → List V → Mem → (Int32 → Mem → Prop) → Prop} {RQ : Int32 → Mem → Prop} {K : Nat → Lc → List V → Mem → Prop} (x3 : Int32) {M : Mem} (h :
    CJ n_D_best [Sum.inr 0] M (fun r1 M1 =>
      CJ n_M_best [Sum.inr 31] M1 (fun r2 M2 =>
        (r1 = r2 →
          K 718 [some (Sum.inr 1000), some (Sum.inr 0), some (Sum.inr 31), some (Sum.inl x3)] [] M2) ∧
        (¬ r1 = r2 →
          Z01 0 ∧ RQ 0 M2)))) : stepsJ SL CJ RQ K (mCode n_L_law) (mRet n_L_law) [18, 128, 207, 250, 283, 326, 389, 422, 471, 482, 495, 508, 521, 544, 557, 580, 603, 616, 639, 662, 695, 718] 1000 508 [some (Sum.inr 1000), some (Sum.inr 0), some (Sum.inr 31), some (Sum.inl x3)] [] M := h
theorem b_L_law_521 {SL : Nat} {CJ : Nat → List V → Mem → (Int32 → Mem → Prop) → Prop} {RQ : Int32 → Mem → Prop} {K : Nat → Lc → List V → Mem → Prop} (x3 : Int32) {M : Mem} (h :
    vp_in (x3 + 1) (SL - 1) ∧
    CJ n_D_plan [Sum.inr 0, Sum.inl (M 1000 (Int32.toNatClampNeg (x3 + 1)))] M (fun r1 M1 =>
      vp_in (x3 + 1) (SL - 1) ∧
      CJ n_M_plan [Sum.inr 31, Sum.inl (M1 1000 (Int32.toNatClampNeg (x3 + 1)))] M1 (fun r2 M2 =>
        (r1 = r2 →
          K 718 [some (Sum.inr 1000), some (Sum.inr 0), some (Sum.inr 31), some (Sum.inl x3)] [] M2) ∧
        (¬ r1 = r2 →
          Z01 0 ∧ RQ 0 M2)))) : stepsJ SL CJ RQ K (mCode n_L_law) (mRet n_L_law) [18, 128, 207, 250, 283, 326, 389, 422, 471, 482, 495, 508, 521, 544, 557, 580, 603, 616, 639, 662, 695, 718] 1000 521 [some (Sum.inr 1000), some (Sum.inr 0), some (Sum.inr 31), some (Sum.inl x3)] [] M := h
theorem b_L_law_544 {SL : Nat} {CJ : Nat → List V → Mem → (Int32 → Mem → Prop) → Prop} {RQ : Int32 → Mem → Prop} {K : Nat → Lc → List V → Mem → Prop} (x3 : Int32) {M : Mem} (h :
    CJ n_D_lay [Sum.inr 0] M (fun r1 M1 =>
      CJ n_M_lay [Sum.inr 31] M1 (fun r2 M2 =>
        (r1 = r2 →
          K 718 [some (Sum.inr 1000), some (Sum.inr 0), some (Sum.inr 31), some (Sum.inl x3)] [] M2) ∧
        (¬ r1 = r2 →
          Z01 0 ∧ RQ 0 M2)))) : stepsJ SL CJ RQ K (mCode n_L_law) (mRet n_L_law) [18, 128, 207, 250, 283, 326, 389, 422, 471, 482, 495, 508, 521, 544, 557, 580, 603, 616, 639, 662, 695, 718] 1000 544 [some (Sum.inr 1000), some (Sum.inr 0), some (Sum.inr 31), some (Sum.inl x3)] [] M := h
theorem b_L_law_557 {SL : Nat} {CJ : Nat → List V → Mem → (Int32 → Mem → Prop) → Prop} {RQ : Int32 → Mem → Prop} {K : Nat → Lc → List V → Mem → Prop} (x3 : Int32) {M : Mem} (h :
    vp_in (x3 + 1) (SL - 1) ∧
    CJ n_D_miss [Sum.inr 0, Sum.inl (M 1000 (Int32.toNatClampNeg (x3 + 1)))] M (fun r1 M1 =>
      vp_in (x3 + 1) (SL - 1) ∧
      CJ n_M_miss [Sum.inr 31, Sum.inl (M1 1000 (Int32.toNatClampNeg (x3 + 1)))] M1 (fun r2 M2 =>
        (r1 = r2 →
          K 718 [some (Sum.inr 1000), some (Sum.inr 0), some (Sum.inr 31), some (Sum.inl x3)] [] M2) ∧
        (¬ r1 = r2 →
          Z01 0 ∧ RQ 0 M2)))) : stepsJ SL CJ RQ K (mCode n_L_law) (mRet n_L_law) [18, 128, 207, 250, 283, 326, 389, 422, 471, 482, 495, 508, 521, 544, 557, 580, 603, 616, 639, 662, 695, 718] 1000 557 [some (Sum.inr 1000), some (Sum.inr 0), some (Sum.inr 31), some (Sum.inl x3)] [] M := h
theorem b_L_law_580 {SL : Nat} {CJ : Nat → List V → Mem → (Int32 → Mem → Prop) → Prop} {RQ : Int32 → Mem → Prop} {K : Nat → Lc → List V → Mem → Prop} (x3 : Int32) {M : Mem} (h :
    vp_in (x3 + 1) (SL - 1) ∧
    CJ n_D_again [Sum.inr 0, Sum.inl (M 1000 (Int32.toNatClampNeg (x3 + 1)))] M (fun r1 M1 =>
      vp_in (x3 + 1) (SL - 1) ∧
      CJ n_M_again [Sum.inr 31, Sum.inl (M1 1000 (Int32.toNatClampNeg (x3 + 1)))] M1 (fun r2 M2 =>
        (r1 = r2 →
          K 718 [some (Sum.inr 1000), some (Sum.inr 0), some (Sum.inr 31), some (Sum.inl x3)] [] M2) ∧
        (¬ r1 = r2 →
          Z01 0 ∧ RQ 0 M2)))) : stepsJ SL CJ RQ K (mCode n_L_law) (mRet n_L_law) [18, 128, 207, 250, 283, 326, 389, 422, 471, 482, 495, 508, 521, 544, 557, 580, 603, 616, 639, 662, 695, 718] 1000 580 [some (Sum.inr 1000), some (Sum.inr 0), some (Sum.inr 31), some (Sum.inl x3)] [] M := h
theorem b_L_law_603 {SL : Nat} {CJ : Nat → List V → Mem → (Int32 → Mem → Prop) → Prop} {RQ : Int32 → Mem → Prop} {K : Nat → Lc → List V → Mem → Prop} (x3 : Int32) {M : Mem} (h :
    CJ n_D_run [Sum.inr 0] M (fun r1 M1 =>
      CJ n_M_run [Sum.inr 31] M1 (fun r2 M2 =>
        (r1 = r2 →
          K 718 [some (Sum.inr 1000), some (Sum.inr 0), some (Sum.inr 31), some (Sum.inl x3)] [] M2) ∧
        (¬ r1 = r2 →
          Z01 0 ∧ RQ 0 M2)))) : stepsJ SL CJ RQ K (mCode n_L_law) (mRet n_L_law) [18, 128, 207, 250, 283, 326, 389, 422, 471, 482, 495, 508, 521, 544, 557, 580, 603, 616, 639, 662, 695, 718] 1000 603 [some (Sum.inr 1000), some (Sum.inr 0), some (Sum.inr 31), some (Sum.inl x3)] [] M := h
theorem b_L_law_616 {SL : Nat} {CJ : Nat → List V → Mem → (Int32 → Mem → Prop) → Prop} {RQ : Int32 → Mem → Prop} {K : Nat → Lc → List V → Mem → Prop} (x3 : Int32) {M : Mem} (h :
    vp_in (x3 + 1) (SL - 1) ∧
    CJ n_D_told [Sum.inr 0, Sum.inl (M 1000 (Int32.toNatClampNeg (x3 + 1)))] M (fun r1 M1 =>
      vp_in (x3 + 1) (SL - 1) ∧
      CJ n_M_told [Sum.inr 31, Sum.inl (M1 1000 (Int32.toNatClampNeg (x3 + 1)))] M1 (fun r2 M2 =>
        (r1 = r2 →
          K 718 [some (Sum.inr 1000), some (Sum.inr 0), some (Sum.inr 31), some (Sum.inl x3)] [] M2) ∧
        (¬ r1 = r2 →
          Z01 0 ∧ RQ 0 M2)))) : stepsJ SL CJ RQ K (mCode n_L_law) (mRet n_L_law) [18, 128, 207, 250, 283, 326, 389, 422, 471, 482, 495, 508, 521, 544, 557, 580, 603, 616, 639, 662, 695, 718] 1000 616 [some (Sum.inr 1000), some (Sum.inr 0), some (Sum.inr 31), some (Sum.inl x3)] [] M := h
theorem b_L_law_639 {SL : Nat} {CJ : Nat → List V → Mem → (Int32 → Mem → Prop) → Prop} {RQ : Int32 → Mem → Prop} {K : Nat → Lc → List V → Mem → Prop} (x3 : Int32) {M : Mem} (h :
    vp_in (x3 + 1) (SL - 1) ∧
    CJ n_D_state [Sum.inr 0, Sum.inl (M 1000 (Int32.toNatClampNeg (x3 + 1)))] M (fun r1 M1 =>
      vp_in (x3 + 1) (SL - 1) ∧
      CJ n_M_state [Sum.inr 31, Sum.inl (M1 1000 (Int32.toNatClampNeg (x3 + 1)))] M1 (fun r2 M2 =>
        (r1 = r2 →
          K 718 [some (Sum.inr 1000), some (Sum.inr 0), some (Sum.inr 31), some (Sum.inl x3)] [] M2) ∧
        (¬ r1 = r2 →
          Z01 0 ∧ RQ 0 M2)))) : stepsJ SL CJ RQ K (mCode n_L_law) (mRet n_L_law) [18, 128, 207, 250, 283, 326, 389, 422, 471, 482, 495, 508, 521, 544, 557, 580, 603, 616, 639, 662, 695, 718] 1000 639 [some (Sum.inr 1000), some (Sum.inr 0), some (Sum.inr 31), some (Sum.inl x3)] [] M := h
theorem b_L_law_662 {SL : Nat} {CJ : Nat → List V → Mem → (Int32 → Mem → Prop) → Prop} {RQ : Int32 → Mem → Prop} {K : Nat → Lc → List V → Mem → Prop} (x3 : Int32) {M : Mem} (h :
    vp_in (x3 + 1) (SL - 1) ∧
    vp_in (x3 + 2) (SL - 1) ∧
    CJ n_D_slot [Sum.inr 0, Sum.inl (M 1000 (Int32.toNatClampNeg (x3 + 1))), Sum.inl (M 1000 (Int32.toNatClampNeg (x3 + 2)))] M (fun r1 M1 =>
      vp_in (x3 + 1) (SL - 1) ∧
      vp_in (x3 + 2) (SL - 1) ∧
      CJ n_M_slot [Sum.inr 31, Sum.inl (M1 1000 (Int32.toNatClampNeg (x3 + 1))), Sum.inl (M1 1000 (Int32.toNatClampNeg (x3 + 2)))] M1 (fun r2 M2 =>
        (r1 = r2 →
          K 718 [some (Sum.inr 1000), some (Sum.inr 0), some (Sum.inr 31), some (Sum.inl x3)] [] M2) ∧
        (¬ r1 = r2 →
          Z01 0 ∧ RQ 0 M2)))) : stepsJ SL CJ RQ K (mCode n_L_law) (mRet n_L_law) [18, 128, 207, 250, 283, 326, 389, 422, 471, 482, 495, 508, 521, 544, 557, 580, 603, 616, 639, 662, 695, 718] 1000 662 [some (Sum.inr 1000), some (Sum.inr 0), some (Sum.inr 31), some (Sum.inl x3)] [] M := h
theorem b_L_law_695 {SL : Nat} {CJ : Nat → List V → Mem → (Int32 → Mem → Prop) → Prop} {RQ : Int32 → Mem → Prop} {K : Nat → Lc → List V → Mem → Prop} (x3 : Int32) {M : Mem} (h :
    vp_in (x3 + 1) (SL - 1) ∧
    CJ n_D_count [Sum.inr 0, Sum.inl (M 1000 (Int32.toNatClampNeg (x3 + 1)))] M (fun r1 M1 =>
      vp_in (x3 + 1) (SL - 1) ∧
      CJ n_M_count [Sum.inr 31, Sum.inl (M1 1000 (Int32.toNatClampNeg (x3 + 1)))] M1 (fun r2 M2 =>
        (r1 = r2 →
          K 718 [some (Sum.inr 1000), some (Sum.inr 0), some (Sum.inr 31), some (Sum.inl x3)] [] M2) ∧
        (¬ r1 = r2 →
          Z01 0 ∧ RQ 0 M2)))) : stepsJ SL CJ RQ K (mCode n_L_law) (mRet n_L_law) [18, 128, 207, 250, 283, 326, 389, 422, 471, 482, 495, 508, 521, 544, 557, 580, 603, 616, 639, 662, 695, 718] 1000 695 [some (Sum.inr 1000), some (Sum.inr 0), some (Sum.inr 31), some (Sum.inl x3)] [] M := h
theorem b_L_law_718 {SL : Nat} {CJ : Nat → List V → Mem → (Int32 → Mem → Prop) → Prop} {RQ : Int32 → Mem → Prop} {K : Nat → Lc → List V → Mem → Prop} (x3 : Int32) {M : Mem} (h :
    K 18 [some (Sum.inr 1000), some (Sum.inr 0), some (Sum.inr 31), some (Sum.inl (x3 + 6))] [] M) : stepsJ SL CJ RQ K (mCode n_L_law) (mRet n_L_law) [18, 128, 207, 250, 283, 326, 389, 422, 471, 482, 495, 508, 521, 544, 557, 580, 603, 616, 639, 662, 695, 718] 1000 718 [some (Sum.inr 1000), some (Sum.inr 0), some (Sum.inr 31), some (Sum.inl x3)] [] M := h
