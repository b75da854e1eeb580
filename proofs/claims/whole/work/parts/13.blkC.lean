/-! printed by wip/gen/allblocks.py: what each body owes at its cuts -/
theorem b_T_begin_0 {E : Env0} {dd : Nat}  {M : Mem} {Q : Int32 → Mem → Prop} (h :
    Z01 1 ∧
    Z01 0 ∧
    CE E dd n_H_restart [Sum.inr 27] (mset (mset M 26 7 1) 26 8 0) (fun r1 M1 =>
      Q 0 (mset (mset (mset (mset (mset (mset M1 26 9 0) 26 10 0) 26 11 0) 26 12 0) 26 14 0) 26 15 0))) : JE E (dd + 1) n_T_begin 0 [some (Sum.inr 26)] [] M Q :=
  JE_steps 1000 [] (by decide) h
theorem b_T_goOn_0 {E : Env0} {d : Nat}  {M : Mem} {Q : Int32 → Mem → Prop} (h :
    JE E d n_T_goOn 10 [some (Sum.inr 26), some (Sum.inl (M 26 9))] [] (mset M 26 13 (-1)) Q) : JE E (d) n_T_goOn 0 [some (Sum.inr 26), none] [] M Q :=
  JE_steps 1000 [10] (by decide) h
theorem b_T_goOn_10 {E : Env0} {dd : Nat} (x1 : Int32) {M : Mem} {Q : Int32 → Mem → Prop} (h :
    ((M 15 1) ≤ x1 →
      Z01 1 ∧
      Q 0 (mset M 26 8 1)) ∧
    (¬ (M 15 1) ≤ x1 →
      CE E dd n_R_beginsAt [Sum.inr 15, Sum.inl x1] M (fun r1 M1 =>
        (¬ r1 = 0 →
          CE E dd n_R_endOfTour [Sum.inr 15, Sum.inl x1] M1 (fun r2 M2 =>
            CE E dd n_T_finishTour [Sum.inr 26, Sum.inl x1, Sum.inl r2] M2 (fun r3 M3 =>
              (¬ r3 = 0 →
                JE E (dd + 1) n_T_goOn 10 [some (Sum.inr 26), some (Sum.inl (x1 + 1))] [] (mset M3 26 12 ((M3 26 12) + 1)) Q) ∧
              (r3 = 0 →
                Q 0 (mset M3 26 9 x1))))) ∧
        (r1 = 0 →
          JE E (dd + 1) n_T_goOn 10 [some (Sum.inr 26), some (Sum.inl (x1 + 1))] [] M1 Q)))) : JE E (dd + 1) n_T_goOn 10 [some (Sum.inr 26), some (Sum.inl x1)] [] M Q :=
  JE_steps 1000 [10] (by decide) h
theorem b_T_tell_0 {E : Env0} {dd : Nat} (x1 : Int32) {M : Mem} {Q : Int32 → Mem → Prop} (h :
    (x1 = 0 →
      Q (M 27 3) M) ∧ (¬ x1 = 0 →
    (x1 = 1 →
      Q (M 26 10) M) ∧ (¬ x1 = 1 →
    (x1 = 2 →
      Q (M 26 11) M) ∧ (¬ x1 = 2 →
    (x1 = 3 →
      CE E dd n_JI_bitCount [Sum.inl (M 26 14)] M (fun r1 M1 =>
        Q r1 M1)) ∧ (¬ x1 = 3 →
    (x1 = 4 →
      CE E dd n_JI_bitCount [Sum.inl (M 26 15)] M (fun r2 M2 =>
        Q r2 M2)) ∧ (¬ x1 = 4 →
    (x1 = 5 →
      Q (M 26 13) M) ∧ (¬ x1 = 5 →
    (x1 = 6 →
      Q (M 26 12) M) ∧ (¬ x1 = 6 →
    (x1 = 7 →
      ((M 26 8) = 0 →
        Q 0 M) ∧
      (¬ (M 26 8) = 0 →
        Q 1 M)) ∧ (¬ x1 = 7 →
      Q (-1) M))))))))) : JE E (dd + 1) n_T_tell 0 [some (Sum.inr 26), some (Sum.inl x1)] [] M Q :=
  JE_steps 1000 [] (by decide) h
theorem b_T_finishTour_0 {E : Env0} {dd : Nat} (x1 : Int32) (x2 : Int32) {M : Mem} {Q : Int32 → Mem → Prop} (h :
    CE E dd n_T_loseLatePlaces [Sum.inr 26, Sum.inl x1, Sum.inl x2] M (fun r1 M1 =>
      CE E dd n_T_hasWanted [Sum.inr 26, Sum.inl x1, Sum.inl x2] M1 (fun r2 M2 =>
        (¬ r2 = 0 →
          CE E dd n_T_giveSlots [Sum.inr 26, Sum.inl x1, Sum.inl x2] M2 (fun r3 M3 =>
            (¬ r3 = 0 →
              CE E dd n_T_takeParts [Sum.inr 26, Sum.inl x1, Sum.inl x2] M3 (fun r4 M4 =>
                CE E dd n_T_lookAtParts [Sum.inr 26, Sum.inl x1, Sum.inl x2] M4 (fun r5 M5 =>
                  CE E dd n_T_setParts [Sum.inr 26, Sum.inl x1, Sum.inl x2] M5 (fun r6 M6 =>
                    Z01 1 ∧ Q 1 M6)))) ∧
            (r3 = 0 →
              Z01 0 ∧ Q 0 M3))) ∧
        (r2 = 0 →
          Z01 1 ∧ Q 1 M2)))) : JE E (dd + 1) n_T_finishTour 0 [some (Sum.inr 26), some (Sum.inl x1), some (Sum.inl x2)] [] M Q :=
  JE_steps 1000 [] (by decide) h
theorem b_T_isMissing_0 {E : Env0} {dd : Nat} (x1 : Int32) {M : Mem} {Q : Int32 → Mem → Prop} (h :
    CE E dd n_D_hasBit [Sum.inl (M 26 15), Sum.inl x1] M (fun r1 M1 =>
      Z01 r1 ∧ Q r1 M1)) : JE E (dd + 1) n_T_isMissing 0 [some (Sum.inr 26), some (Sum.inl x1)] [] M Q :=
  JE_steps 1000 [] (by decide) h
theorem b_T_isLateBehindMissing_0 {E : Env0} {d : Nat} (x1 : Int32) {M : Mem} {Q : Int32 → Mem → Prop} (h :
    vp_in x1 10 ∧
    (((M 10 (Int32.toNatClampNeg x1)) &&& (M 26 15)) = 0 →
      Z01 0 ∧ Q 0 M) ∧
    (¬ ((M 10 (Int32.toNatClampNeg x1)) &&& (M 26 15)) = 0 →
      Z01 1 ∧ Q 1 M)) : JE E (d) n_T_isLateBehindMissing 0 [some (Sum.inr 26), some (Sum.inl x1)] [] M Q :=
  JE_steps 1000 [] (by decide) h
theorem b_T_loseLatePlaces_0 {E : Env0} {d : Nat} (x1 : Int32) (x2 : Int32) {M : Mem} {Q : Int32 → Mem → Prop} (h :
    JE E d n_T_loseLatePlaces 2 [some (Sum.inr 26), some (Sum.inl x1), some (Sum.inl x2), some (Sum.inl x1), none] [] M Q) : JE E (d) n_T_loseLatePlaces 0 [some (Sum.inr 26), some (Sum.inl x1), some (Sum.inl x2), none, none] [] M Q :=
  JE_steps 1000 [2] (by decide) h
theorem b_T_loseLatePlaces_2 {E : Env0} {dd : Nat} (o1 : Option V) (x2 : Int32) (x3 : Int32) (o4 : Option V) {M : Mem} {Q : Int32 → Mem → Prop} (h :
    (x2 ≤ x3 →
      Q 0 M) ∧
    (¬ x2 ≤ x3 →
      CE E dd n_R_placeAt [Sum.inr 15, Sum.inl x3] M (fun r1 M1 =>
        CE E dd n_T_isLateBehindMissing [Sum.inr 26, Sum.inl r1] M1 (fun r2 M2 =>
          (r2 = 0 →
            JE E (dd + 1) n_T_loseLatePlaces 2 [some (Sum.inr 26), o1, some (Sum.inl x2), some (Sum.inl (x3 + 1)), some (Sum.inl r1)] [] M2 Q) ∧
          (¬ r2 = 0 →
            JE E (dd + 1) n_T_loseLatePlaces 2 [some (Sum.inr 26), o1, some (Sum.inl x2), some (Sum.inl (x3 + 1)), some (Sum.inl r1)] [] (mset M2 26 15 ((M2 26 15) ||| (1 <<< (r1 &&& 31)))) Q))))) : JE E (dd + 1) n_T_loseLatePlaces 2 [some (Sum.inr 26), o1, some (Sum.inl x2), some (Sum.inl x3), o4] [] M Q :=
  JE_steps 1000 [2] (by decide) h
theorem b_T_hasWanted_0 {E : Env0} {d : Nat} (x1 : Int32) (x2 : Int32) {M : Mem} {Q : Int32 → Mem → Prop} (h :
    JE E d n_T_hasWanted 2 [some (Sum.inr 26), some (Sum.inl x1), some (Sum.inl x2), some (Sum.inl x1)] [] M Q) : JE E (d) n_T_hasWanted 0 [some (Sum.inr 26), some (Sum.inl x1), some (Sum.inl x2), none] [] M Q :=
  JE_steps 1000 [2] (by decide) h
theorem b_T_hasWanted_2 {E : Env0} {dd : Nat} (o1 : Option V) (x2 : Int32) (x3 : Int32) {M : Mem} {Q : Int32 → Mem → Prop} (h :
    (x2 ≤ x3 →
      Z01 0 ∧ Q 0 M) ∧
    (¬ x2 ≤ x3 →
      CE E dd n_R_placeAt [Sum.inr 15, Sum.inl x3] M (fun r1 M1 =>
        CE E dd n_T_isMissing [Sum.inr 26, Sum.inl r1] M1 (fun r2 M2 =>
          (¬ r2 = 0 →
            JE E (dd + 1) n_T_hasWanted 2 [some (Sum.inr 26), o1, some (Sum.inl x2), some (Sum.inl (x3 + 1))] [] M2 Q) ∧
          (r2 = 0 →
            Z01 1 ∧ Q 1 M2))))) : JE E (dd + 1) n_T_hasWanted 2 [some (Sum.inr 26), o1, some (Sum.inl x2), some (Sum.inl x3)] [] M Q :=
  JE_steps 1000 [2] (by decide) h
theorem b_T_giveSlots_0 {E : Env0} {dd : Nat} (x1 : Int32) (x2 : Int32) {M : Mem} {Q : Int32 → Mem → Prop} (h :
    CE E dd n_JA_fill [Sum.inr 30, Sum.inl 0] M (fun r1 M1 =>
      JE E (dd + 1) n_T_giveSlots 10 [some (Sum.inr 26), some (Sum.inl x1), some (Sum.inl x2), some (Sum.inl x1), none, none] [] M1 Q)) : JE E (dd + 1) n_T_giveSlots 0 [some (Sum.inr 26), some (Sum.inl x1), some (Sum.inl x2), none, none, none] [] M Q :=
  JE_steps 1000 [10] (by decide) h
theorem b_T_giveSlots_10 {E : Env0} {dd : Nat} (o1 : Option V) (x2 : Int32) (x3 : Int32) (o4 : Option V) (o5 : Option V) {M : Mem} {Q : Int32 → Mem → Prop} (h :
    (x2 ≤ x3 →
      Z01 1 ∧ Q 1 M) ∧
    (¬ x2 ≤ x3 →
      CE E dd n_R_placeAt [Sum.inr 15, Sum.inl x3] M (fun r1 M1 =>
        CE E dd n_T_isMissing [Sum.inr 26, Sum.inl r1] M1 (fun r2 M2 =>
          (r2 = 0 →
            vp_in r1 10 ∧
            CE E dd n_T_slotWithPart [Sum.inr 26, Sum.inl (M2 8 (Int32.toNatClampNeg r1))] M2 (fun r3 M3 =>
              (¬ r3 = ((-1) : Int32) →
                vp_in r1 10 ∧ 
                vp_in r3 8 ∧
                vp_in r3 8 ∧ 
                JE E (dd + 1) n_T_giveSlots 10 [some (Sum.inr 26), o1, some (Sum.inl x2), some (Sum.inl (x3 + 1)), some (Sum.inl r1), some (Sum.inl r3)] [] (mset (mset M3 29 (Int32.toNatClampNeg r1) r3) 30 (Int32.toNatClampNeg r3) ((M3 30 (Int32.toNatClampNeg r3)) + 1)) Q) ∧
              (r3 = ((-1) : Int32) →
                Z01 0 ∧ Q 0 (mset M3 26 13 r1)))) ∧
          (¬ r2 = 0 →
            JE E (dd + 1) n_T_giveSlots 10 [some (Sum.inr 26), o1, some (Sum.inl x2), some (Sum.inl (x3 + 1)), some (Sum.inl r1), o5] [] M2 Q))))) : JE E (dd + 1) n_T_giveSlots 10 [some (Sum.inr 26), o1, some (Sum.inl x2), some (Sum.inl x3), o4, o5] [] M Q :=
  JE_steps 1000 [10] (by decide) h
theorem b_T_slotWithPart_0 {E : Env0} {d : Nat} (x1 : Int32) {M : Mem} {Q : Int32 → Mem → Prop} (h :
    JE E d n_T_slotWithPart 2 [some (Sum.inr 26), some (Sum.inl x1), some (Sum.inl 0)] [] M Q) : JE E (d) n_T_slotWithPart 0 [some (Sum.inr 26), some (Sum.inl x1), none] [] M Q :=
  JE_steps 1000 [2] (by decide) h
theorem b_T_slotWithPart_2 {E : Env0} {d : Nat} (x1 : Int32) (x2 : Int32) {M : Mem} {Q : Int32 → Mem → Prop} (h :
    ((8 : Int32) ≤ x2 →
      Q (-1) M) ∧
    (¬ (8 : Int32) ≤ x2 →
      vp_in x2 8 ∧
      (¬ (M 12 (Int32.toNatClampNeg x2)) = x1 →
        JE E d n_T_slotWithPart 2 [some (Sum.inr 26), some (Sum.inl x1), some (Sum.inl (x2 + 1))] [] M Q) ∧
      ((M 12 (Int32.toNatClampNeg x2)) = x1 →
        vp_in x2 8 ∧
        vp_in x2 8 ∧
        ((M 13 (Int32.toNatClampNeg x2)) ≤ (M 30 (Int32.toNatClampNeg x2)) →
          JE E d n_T_slotWithPart 2 [some (Sum.inr 26), some (Sum.inl x1), some (Sum.inl (x2 + 1))] [] M Q) ∧
        (¬ (M 13 (Int32.toNatClampNeg x2)) ≤ (M 30 (Int32.toNatClampNeg x2)) →
          Q x2 M)))) : JE E (d) n_T_slotWithPart 2 [some (Sum.inr 26), some (Sum.inl x1), some (Sum.inl x2)] [] M Q :=
  JE_steps 1000 [2] (by decide) h
theorem b_T_takeParts_0 {E : Env0} {dd : Nat} (x1 : Int32) (x2 : Int32) {M : Mem} {Q : Int32 → Mem → Prop} (h :
    CE E dd n_R_placeAt [Sum.inr 15, Sum.inl x1] M (fun r1 M1 =>
      CE E dd n_B_nozzleOf [Sum.inr 1, Sum.inl r1] M1 (fun r2 M2 =>
        CE E dd n_H_bear [Sum.inr 27, Sum.inl r2, Sum.inl (M2 14 4)] M2 (fun r3 M3 =>
          JE E (dd + 1) n_T_takeParts 31 [some (Sum.inr 26), some (Sum.inl x1), some (Sum.inl x2), some (Sum.inl 0)] [] M3 Q)))) : JE E (dd + 1) n_T_takeParts 0 [some (Sum.inr 26), some (Sum.inl x1), some (Sum.inl x2), none] [] M Q :=
  JE_steps 1000 [31] (by decide) h
theorem b_T_takeParts_31 {E : Env0} {dd : Nat} (x1 : Int32) (x2 : Int32) (x3 : Int32) {M : Mem} {Q : Int32 → Mem → Prop} (h :
    ((8 : Int32) ≤ x3 →
      Q 0 M) ∧
    (¬ (8 : Int32) ≤ x3 →
      vp_in x3 8 ∧
      ((M 30 (Int32.toNatClampNeg x3)) ≤ 0 →
        JE E (dd + 1) n_T_takeParts 31 [some (Sum.inr 26), some (Sum.inl x1), some (Sum.inl x2), some (Sum.inl (x3 + 1))] [] M Q) ∧
      (¬ (M 30 (Int32.toNatClampNeg x3)) ≤ 0 →
        CE E dd n_H_moveTo [Sum.inr 27, Sum.inl (20 * x3), Sum.inl 0] M (fun r1 M1 =>
          CE E dd n_T_takePartsOf [Sum.inr 26, Sum.inl x3, Sum.inl x1, Sum.inl x2] M1 (fun r2 M2 =>
            JE E (dd + 1) n_T_takeParts 31 [some (Sum.inr 26), some (Sum.inl x1), some (Sum.inl x2), some (Sum.inl (x3 + 1))] [] M2 Q))))) : JE E (dd + 1) n_T_takeParts 31 [some (Sum.inr 26), some (Sum.inl x1), some (Sum.inl x2), some (Sum.inl x3)] [] M Q :=
  JE_steps 1000 [31] (by decide) h
theorem b_T_takePartsOf_0 {E : Env0} {d : Nat} (x1 : Int32) (x2 : Int32) (x3 : Int32) {M : Mem} {Q : Int32 → Mem → Prop} (h :
    JE E d n_T_takePartsOf 3 [some (Sum.inr 26), some (Sum.inl x1), some (Sum.inl x2), some (Sum.inl x3), some (Sum.inl x2), none] [] M Q) : JE E (d) n_T_takePartsOf 0 [some (Sum.inr 26), some (Sum.inl x1), some (Sum.inl x2), some (Sum.inl x3), none, none] [] M Q :=
  JE_steps 1000 [3] (by decide) h
theorem b_T_takePartsOf_3 {E : Env0} {dd : Nat} (x1 : Int32) (o2 : Option V) (x3 : Int32) (x4 : Int32) (o5 : Option V) {M : Mem} {Q : Int32 → Mem → Prop} (h :
    (x3 ≤ x4 →
      Q 0 M) ∧
    (¬ x3 ≤ x4 →
      CE E dd n_R_placeAt [Sum.inr 15, Sum.inl x4] M (fun r1 M1 =>
        CE E dd n_T_isMissing [Sum.inr 26, Sum.inl r1] M1 (fun r2 M2 =>
          (¬ r2 = 0 →
            JE E (dd + 1) n_T_takePartsOf 3 [some (Sum.inr 26), some (Sum.inl x1), o2, some (Sum.inl x3), some (Sum.inl (x4 + 1)), some (Sum.inl r1)] [] M2 Q) ∧
          (r2 = 0 →
            vp_in r1 10 ∧
            (¬ (M2 29 (Int32.toNatClampNeg r1)) = x1 →
              JE E (dd + 1) n_T_takePartsOf 3 [some (Sum.inr 26), some (Sum.inl x1), o2, some (Sum.inl x3), some (Sum.inl (x4 + 1)), some (Sum.inl r1)] [] M2 Q) ∧
            ((M2 29 (Int32.toNatClampNeg r1)) = x1 →
              CE E dd n_T_takesPart [Sum.inr 26, Sum.inl x1] M2 (fun r3 M3 =>
                (¬ r3 = 0 →
                  JE E (dd + 1) n_T_takePartsOf 3 [some (Sum.inr 26), some (Sum.inl x1), o2, some (Sum.inl x3), some (Sum.inl (x4 + 1)), some (Sum.inl r1)] [] M3 Q) ∧
                (r3 = 0 →
                  JE E (dd + 1) n_T_takePartsOf 3 [some (Sum.inr 26), some (Sum.inl x1), o2, some (Sum.inl x3), some (Sum.inl (x4 + 1)), some (Sum.inl r1)] [] (mset M3 26 15 ((M3 26 15) ||| (1 <<< (r1 &&& 31)))) Q)))))))) : JE E (dd + 1) n_T_takePartsOf 3 [some (Sum.inr 26), some (Sum.inl x1), o2, some (Sum.inl x3), some (Sum.inl x4), o5] [] M Q :=
  JE_steps 1000 [3] (by decide) h
theorem b_T_takesPart_0 {E : Env0} {d : Nat} (x1 : Int32) {M : Mem} {Q : Int32 → Mem → Prop} (h :
    JE E d n_T_takesPart 2 [some (Sum.inr 26), some (Sum.inl x1), some (Sum.inl 0)] [] M Q) : JE E (d) n_T_takesPart 0 [some (Sum.inr 26), some (Sum.inl x1), none] [] M Q :=
  JE_steps 1000 [2] (by decide) h
theorem b_T_takesPart_2 {E : Env0} {dd : Nat} (x1 : Int32) (x2 : Int32) {M : Mem} {Q : Int32 → Mem → Prop} (h :
    ((M 26 6) < x2 →
      Z01 0 ∧ Q 0 M) ∧
    (¬ (M 26 6) < x2 →
      vp_in x1 8 ∧
      ((1 : Int32) ≤ (M 13 (Int32.toNatClampNeg x1)) →
        vp_in x1 8 ∧
        vp_in x1 8 ∧ 
        CE E dd n_H_spend [Sum.inr 27, Sum.inl (M 14 1)] (mset (mset M 13 (Int32.toNatClampNeg x1) ((M 13 (Int32.toNatClampNeg x1)) - 1)) 26 10 ((M 26 10) + 1)) (fun r1 M1 =>
          ((200 : Int32) < (M1 26 10) →
            Z01 1 ∧ Q 1 M1) ∧
          (¬ (200 : Int32) < (M1 26 10) →
            vp_in (M1 26 10) 201 ∧
            (¬ (M1 28 (Int32.toNatClampNeg (M1 26 10))) = 0 →
              JE E (dd + 1) n_T_takesPart 2 [some (Sum.inr 26), some (Sum.inl x1), some (Sum.inl (x2 + 1))] [] (mset M1 26 11 ((M1 26 11) + 1)) Q) ∧
            ((M1 28 (Int32.toNatClampNeg (M1 26 10))) = 0 →
              Z01 1 ∧ Q 1 M1)))) ∧
      (¬ (1 : Int32) ≤ (M 13 (Int32.toNatClampNeg x1)) →
        Z01 0 ∧ Q 0 M))) : JE E (dd + 1) n_T_takesPart 2 [some (Sum.inr 26), some (Sum.inl x1), some (Sum.inl x2)] [] M Q :=
  JE_steps 1000 [2] (by decide) h
theorem b_T_lookAtParts_0 {E : Env0} {d : Nat} (x1 : Int32) (x2 : Int32) {M : Mem} {Q : Int32 → Mem → Prop} (h :
    JE E d n_T_lookAtParts 5 [some (Sum.inr 26), some (Sum.inl x1), some (Sum.inl x2), some (Sum.inl 0), some (Sum.inl x1), none] [] M Q) : JE E (d) n_T_lookAtParts 0 [some (Sum.inr 26), some (Sum.inl x1), some (Sum.inl x2), none, none, none] [] M Q :=
  JE_steps 1000 [5] (by decide) h
theorem b_T_lookAtParts_5 {E : Env0} {dd : Nat} (o1 : Option V) (x2 : Int32) (x3 : Int32) (x4 : Int32) (o5 : Option V) {M : Mem} {Q : Int32 → Mem → Prop} (h :
    (x2 ≤ x4 →
      (x3 ≤ 0 →
        Q 0 M) ∧
      (¬ x3 ≤ 0 →
        CE E dd n_H_moveTo [Sum.inr 27, Sum.inl 199, Sum.inl 0] M (fun r1 M1 =>
          CE E dd n_H_spend [Sum.inr 27, Sum.inl (x3 * (M1 14 3))] M1 (fun r2 M2 =>
            Q 0 M2)))) ∧
    (¬ x2 ≤ x4 →
      CE E dd n_R_placeAt [Sum.inr 15, Sum.inl x4] M (fun r3 M3 =>
        CE E dd n_T_isMissing [Sum.inr 26, Sum.inl r3] M3 (fun r4 M4 =>
          (¬ r4 = 0 →
            JE E (dd + 1) n_T_lookAtParts 5 [some (Sum.inr 26), o1, some (Sum.inl x2), some (Sum.inl x3), some (Sum.inl (x4 + 1)), some (Sum.inl r3)] [] M4 Q) ∧
          (r4 = 0 →
            CE E dd n_B_isFine [Sum.inr 1, Sum.inl r3] M4 (fun r5 M5 =>
              (r5 = 0 →
                JE E (dd + 1) n_T_lookAtParts 5 [some (Sum.inr 26), o1, some (Sum.inl x2), some (Sum.inl x3), some (Sum.inl (x4 + 1)), some (Sum.inl r3)] [] M5 Q) ∧
              (¬ r5 = 0 →
                JE E (dd + 1) n_T_lookAtParts 5 [some (Sum.inr 26), o1, some (Sum.inl x2), some (Sum.inl (x3 + 1)), some (Sum.inl (x4 + 1)), some (Sum.inl r3)] [] M5 Q))))))) : JE E (dd + 1) n_T_lookAtParts 5 [some (Sum.inr 26), o1, some (Sum.inl x2), some (Sum.inl x3), some (Sum.inl x4), o5] [] M Q :=
  JE_steps 1000 [5] (by decide) h
theorem b_T_setParts_0 {E : Env0} {d : Nat} (x1 : Int32) (x2 : Int32) {M : Mem} {Q : Int32 → Mem → Prop} (h :
    JE E d n_T_setParts 2 [some (Sum.inr 26), some (Sum.inl x1), some (Sum.inl x2), some (Sum.inl x1), none] [] M Q) : JE E (d) n_T_setParts 0 [some (Sum.inr 26), some (Sum.inl x1), some (Sum.inl x2), none, none] [] M Q :=
  JE_steps 1000 [2] (by decide) h
theorem b_T_setParts_2 {E : Env0} {dd : Nat} (o1 : Option V) (x2 : Int32) (x3 : Int32) (o4 : Option V) {M : Mem} {Q : Int32 → Mem → Prop} (h :
    (x2 ≤ x3 →
      Q 0 M) ∧
    (¬ x2 ≤ x3 →
      CE E dd n_R_placeAt [Sum.inr 15, Sum.inl x3] M (fun r1 M1 =>
        CE E dd n_T_isMissing [Sum.inr 26, Sum.inl r1] M1 (fun r2 M2 =>
          (r2 = 0 →
            CE E dd n_T_isLateBehindMissing [Sum.inr 26, Sum.inl r1] M2 (fun r3 M3 =>
              (r3 = 0 →
                vp_in r1 10 ∧
                vp_in r1 10 ∧
                CE E dd n_H_moveTo [Sum.inr 27, Sum.inl (M3 6 (Int32.toNatClampNeg r1)), Sum.inl (M3 7 (Int32.toNatClampNeg r1))] M3 (fun r4 M4 =>
                  CE E dd n_H_spend [Sum.inr 27, Sum.inl (M4 14 2)] M4 (fun r5 M5 =>
                    JE E (dd + 1) n_T_setParts 2 [some (Sum.inr 26), o1, some (Sum.inl x2), some (Sum.inl (x3 + 1)), some (Sum.inl r1)] [] (mset M5 26 14 ((M5 26 14) ||| (1 <<< (r1 &&& 31)))) Q))) ∧
              (¬ r3 = 0 →
                JE E (dd + 1) n_T_setParts 2 [some (Sum.inr 26), o1, some (Sum.inl x2), some (Sum.inl (x3 + 1)), some (Sum.inl r1)] [] (mset M3 26 15 ((M3 26 15) ||| (1 <<< (r1 &&& 31)))) Q))) ∧
          (¬ r2 = 0 →
            JE E (dd + 1) n_T_setParts 2 [some (Sum.inr 26), o1, some (Sum.inl x2), some (Sum.inl (x3 + 1)), some (Sum.inl r1)] [] M2 Q))))) : JE E (dd + 1) n_T_setParts 2 [some (Sum.inr 26), o1, some (Sum.inl x2), some (Sum.inl x3), o4] [] M Q :=
  JE_steps 1000 [2] (by decide) h
theorem b_D_kind_0 {E : Env0} {dd : Nat} (x1 : Int32) (x2 : Int32) (x3 : Int32) (x4 : Int32) (x5 : Int32) {M : Mem} {Q : Int32 → Mem → Prop} (h :
    CE E dd n_D_isWithin [Sum.inl x1, Sum.inl 0, Sum.inl 7] M (fun r1 M1 =>
      (r1 = 0 →
        Z01 0 ∧ Q 0 M1) ∧
      (¬ r1 = 0 →
        CE E dd n_D_isWithin [Sum.inl x2, Sum.inl 1, Sum.inl 20] M1 (fun r2 M2 =>
          (r2 = 0 →
            Z01 0 ∧ Q 0 M2) ∧
          (¬ r2 = 0 →
            CE E dd n_D_isWithin [Sum.inl x3, Sum.inl 1, Sum.inl 9] M2 (fun r3 M3 =>
              (r3 = 0 →
                Z01 0 ∧ Q 0 M3) ∧
              (¬ r3 = 0 →
                CE E dd n_D_isWithin [Sum.inl x4, Sum.inl 0, Sum.inl 2] M3 (fun r4 M4 =>
                  (r4 = 0 →
                    Z01 0 ∧ Q 0 M4) ∧
                  (¬ r4 = 0 →
                    CE E dd n_B_hasPlaceOf [Sum.inr 1, Sum.inl x1] M4 (fun r5 M5 =>
                      (r5 = 0 →
                        vp_in x1 8 ∧ 
                        vp_in x1 8 ∧ 
                        vp_in x1 8 ∧ 
                        vp_in x1 8 ∧ Z01 x5 ∧
                        Z01 1 ∧ Q 1 (mset (mset (mset (mset M5 2 (Int32.toNatClampNeg x1) x2) 3 (Int32.toNatClampNeg x1) x3) 4 (Int32.toNatClampNeg x1) x4) 5 (Int32.toNatClampNeg x1) x5)) ∧
                      (¬ r5 = 0 →
                        Z01 0 ∧ Q 0 M5))))))))))) : JE E (dd + 1) n_D_kind 0 [some (Sum.inr 0), some (Sum.inl x1), some (Sum.inl x2), some (Sum.inl x3), some (Sum.inl x4), some (Sum.inl x5)] [] M Q :=
  JE_steps 1000 [] (by decide) h
theorem b_D_place_0 {E : Env0} {dd : Nat} (x1 : Int32) (x2 : Int32) (x3 : Int32) {M : Mem} {Q : Int32 → Mem → Prop} (h :
    CE E dd n_D_isWithin [Sum.inl x1, Sum.inl 0, Sum.inl 199] M (fun r1 M1 =>
      (r1 = 0 →
        Q (-1) M1) ∧
      (¬ r1 = 0 →
        CE E dd n_D_isWithin [Sum.inl x2, Sum.inl 0, Sum.inl 199] M1 (fun r2 M2 =>
          (r2 = 0 →
            Q (-1) M2) ∧
          (¬ r2 = 0 →
            CE E dd n_D_isWithin [Sum.inl x3, Sum.inl 0, Sum.inl 7] M2 (fun r3 M3 =>
              (¬ r3 = 0 →
                CE E dd n_B_addPlace [Sum.inr 1, Sum.inl x1, Sum.inl x2, Sum.inl x3] M3 (fun r4 M4 =>
                  (r4 = ((-1) : Int32) →
                    Q r4 M4) ∧
                  (¬ r4 = ((-1) : Int32) →
                    CE E dd n_D_dropPlan [Sum.inr 0] M4 (fun r5 M5 =>
                      Q r4 M5)))) ∧
              (r3 = 0 →
                Q (-1) M3))))))) : JE E (dd + 1) n_D_place 0 [some (Sum.inr 0), some (Sum.inl x1), some (Sum.inl x2), some (Sum.inl x3), none] [] M Q :=
  JE_steps 1000 [] (by decide) h
theorem b_D_late_0 {E : Env0} {dd : Nat} (x1 : Int32) (x2 : Int32) {M : Mem} {Q : Int32 → Mem → Prop} (h :
    CE E dd n_D_areTwoPlaces [Sum.inr 0, Sum.inl x1, Sum.inl x2] M (fun r1 M1 =>
      (r1 = 0 →
        Z01 0 ∧ Q 0 M1) ∧
      (¬ r1 = 0 →
        CE E dd n_B_addLate [Sum.inr 1, Sum.inl x1, Sum.inl x2] M1 (fun r2 M2 =>
          (¬ r2 = 0 →
            CE E dd n_D_dropPlan [Sum.inr 0] M2 (fun r3 M3 =>
              Z01 1 ∧ Q 1 M3)) ∧
          (r2 = 0 →
            Z01 0 ∧ Q 0 M2))))) : JE E (dd + 1) n_D_late 0 [some (Sum.inr 0), some (Sum.inl x1), some (Sum.inl x2)] [] M Q :=
  JE_steps 1000 [] (by decide) h
theorem b_D_feeder_0 {E : Env0} {dd : Nat} (x1 : Int32) (x2 : Int32) (x3 : Int32) {M : Mem} {Q : Int32 → Mem → Prop} (h :
    CE E dd n_D_isWithin [Sum.inl x1, Sum.inl 0, Sum.inl 7] M (fun r1 M1 =>
      (¬ r1 = 0 →
        (¬ x2 = ((-1) : Int32) →
          CE E dd n_D_isWithin [Sum.inl x2, Sum.inl 0, Sum.inl 7] M1 (fun r2 M2 =>
            (r2 = 0 →
              Z01 0 ∧ Q 0 M2) ∧
            (¬ r2 = 0 →
              CE E dd n_D_isWithin [Sum.inl x3, Sum.inl 0, Sum.inl 100] M2 (fun r3 M3 =>
                (¬ r3 = 0 →
                  CE E dd n_S_fill [Sum.inr 11, Sum.inl x1, Sum.inl x2, Sum.inl x3] M3 (fun r4 M4 =>
                    Z01 1 ∧ Q 1 M4)) ∧
                (r3 = 0 →
                  Z01 0 ∧ Q 0 M3))))) ∧
        (x2 = ((-1) : Int32) →
          CE E dd n_S_fill [Sum.inr 11, Sum.inl x1, Sum.inl (-1), Sum.inl 0] M1 (fun r5 M5 =>
            Z01 1 ∧ Q 1 M5))) ∧
      (r1 = 0 →
        Z01 0 ∧ Q 0 M1))) : JE E (dd + 1) n_D_feeder 0 [some (Sum.inr 0), some (Sum.inl x1), some (Sum.inl x2), some (Sum.inl x3)] [] M Q :=
  JE_steps 1000 [] (by decide) h
theorem b_D_machine_0 {E : Env0} {dd : Nat} (x1 : Int32) (x2 : Int32) (x3 : Int32) (x4 : Int32) (x5 : Int32) {M : Mem} {Q : Int32 → Mem → Prop} (h :
    CE E dd n_D_isWithin [Sum.inl x1, Sum.inl 1, Sum.inl 4] M (fun r1 M1 =>
      (r1 = 0 →
        Z01 0 ∧ Q 0 M1) ∧
      (¬ r1 = 0 →
        CE E dd n_D_isWithin [Sum.inl x2, Sum.inl 1, Sum.inl 20] M1 (fun r2 M2 =>
          (r2 = 0 →
            Z01 0 ∧ Q 0 M2) ∧
          (¬ r2 = 0 →
            CE E dd n_D_isWithin [Sum.inl x3, Sum.inl 1, Sum.inl 20] M2 (fun r3 M3 =>
              (r3 = 0 →
                Z01 0 ∧ Q 0 M3) ∧
              (¬ r3 = 0 →
                CE E dd n_D_isWithin [Sum.inl x4, Sum.inl 0, Sum.inl 20] M3 (fun r4 M4 =>
                  (r4 = 0 →
                    Z01 0 ∧ Q 0 M4) ∧
                  (¬ r4 = 0 →
                    CE E dd n_D_isWithin [Sum.inl x5, Sum.inl 0, Sum.inl 50] M4 (fun r5 M5 =>
                      (¬ r5 = 0 →
                        CE E dd n_D_dropPlan [Sum.inr 0] (mset (mset (mset (mset (mset M5 14 0 x1) 14 1 x2) 14 2 x3) 14 3 x4) 14 4 x5) (fun r6 M6 =>
                          Z01 1 ∧ Q 1 M6)) ∧
                      (r5 = 0 →
                        Z01 0 ∧ Q 0 M5))))))))))) : JE E (dd + 1) n_D_machine 0 [some (Sum.inr 0), some (Sum.inl x1), some (Sum.inl x2), some (Sum.inl x3), some (Sum.inl x4), some (Sum.inl x5)] [] M Q :=
  JE_steps 1000 [] (by decide) h
theorem b_D_ahead_0 {E : Env0} {dd : Nat} (x1 : Int32) (x2 : Int32) {M : Mem} {Q : Int32 → Mem → Prop} (h :
    CE E dd n_D_areTwoPlaces [Sum.inr 0, Sum.inl x1, Sum.inl x2] M (fun r1 M1 =>
      (¬ r1 = 0 →
        vp_in x2 10 ∧
        CE E dd n_D_hasBit [Sum.inl (M1 9 (Int32.toNatClampNeg x2)), Sum.inl x1] M1 (fun r2 M2 =>
          (r2 = 0 →
            Q 0 M2) ∧
          (¬ r2 = 0 →
            Q 1 M2))) ∧
      (r1 = 0 →
        Q (-1) M1))) : JE E (dd + 1) n_D_ahead 0 [some (Sum.inr 0), some (Sum.inl x1), some (Sum.inl x2)] [] M Q :=
  JE_steps 1000 [] (by decide) h
theorem b_D_then_0 {E : Env0} {dd : Nat} (x1 : Int32) (x2 : Int32) {M : Mem} {Q : Int32 → Mem → Prop} (h :
    CE E dd n_D_isPlace [Sum.inr 0, Sum.inl x1] M (fun r1 M1 =>
      (r1 = 0 →
        Q (-1) M1) ∧
      (¬ r1 = 0 →
        CE E dd n_R_holds [Sum.inr 15, Sum.inl x1] M1 (fun r2 M2 =>
          (r2 = 0 →
            CE E dd n_R_append [Sum.inr 15, Sum.inl x1, Sum.inl x2] M2 (fun r3 M3 =>
              Z01 0 ∧
              Q (M3 15 1) (mset M3 26 7 0))) ∧
          (¬ r2 = 0 →
            Q (-1) M2))))) : JE E (dd + 1) n_D_then 0 [some (Sum.inr 0), some (Sum.inl x1), some (Sum.inl x2)] [] M Q :=
  JE_steps 1000 [] (by decide) h
theorem b_D_clear_0 {E : Env0} {dd : Nat}  {M : Mem} {Q : Int32 → Mem → Prop} (h :
    CE E dd n_D_dropPlan [Sum.inr 0] M (fun r1 M1 =>
      Q 0 M1)) : JE E (dd + 1) n_D_clear 0 [some (Sum.inr 0)] [] M Q :=
  JE_steps 1000 [] (by decide) h
theorem b_D_good_0 {E : Env0} {dd : Nat}  {M : Mem} {Q : Int32 → Mem → Prop} (h :
    CE E dd n_K_isGood [Sum.inr 17] M (fun r1 M1 =>
      (r1 = 0 →
        Q 0 M1) ∧
      (¬ r1 = 0 →
        Q 1 M1))) : JE E (dd + 1) n_D_good 0 [some (Sum.inr 0)] [] M Q :=
  JE_steps 1000 [] (by decide) h
theorem b_D_ticks_0 {E : Env0} {dd : Nat}  {M : Mem} {Q : Int32 → Mem → Prop} (h :
    CE E dd n_K_isGood [Sum.inr 17] M (fun r1 M1 =>
      (r1 = 0 →
        Q (-1) M1) ∧
      (¬ r1 = 0 →
        CE E dd n_K_reckon [Sum.inr 17] M1 (fun r2 M2 =>
          Q r2 M2)))) : JE E (dd + 1) n_D_ticks 0 [some (Sum.inr 0)] [] M Q :=
  JE_steps 1000 [] (by decide) h
theorem b_D_best_0 {E : Env0} {dd : Nat}  {M : Mem} {Q : Int32 → Mem → Prop} (h :
    CE E dd n_F_find [Sum.inr 20] M (fun r1 M1 =>
      (r1 = ((-1) : Int32) →
        Q r1 M1) ∧
      (¬ r1 = ((-1) : Int32) →
        CE E dd n_F_writeTo [Sum.inr 20, Sum.inr 15] M1 (fun r2 M2 =>
          Z01 0 ∧
          Q r1 (mset M2 26 7 0))))) : JE E (dd + 1) n_D_best 0 [some (Sum.inr 0), none] [] M Q :=
  JE_steps 1000 [] (by decide) h
theorem b_D_plan_0 {E : Env0} {dd : Nat} (x1 : Int32) {M : Mem} {Q : Int32 → Mem → Prop} (h :
    CE E dd n_D_isWithin [Sum.inl x1, Sum.inl 0, Sum.inl ((M 15 1) - 1)] M (fun r1 M1 =>
      (r1 = 0 →
        Q (-1) M1) ∧
      (¬ r1 = 0 →
        vp_in x1 10 ∧
        Q (M1 16 (Int32.toNatClampNeg x1)) M1))) : JE E (dd + 1) n_D_plan 0 [some (Sum.inr 0), some (Sum.inl x1)] [] M Q :=
  JE_steps 1000 [] (by decide) h
theorem b_D_lay_0 {E : Env0} {dd : Nat}  {M : Mem} {Q : Int32 → Mem → Prop} (h :
    CE E dd n_K_isGood [Sum.inr 17] M (fun r1 M1 =>
      (¬ r1 = 0 →
        Z01 0 ∧
        JE E (dd + 1) n_D_lay 22 [some (Sum.inr 0), some (Sum.inl 0)] [] (mset M1 26 7 0) Q) ∧
      (r1 = 0 →
        Q (-1) M1))) : JE E (dd + 1) n_D_lay 0 [some (Sum.inr 0), none] [] M Q :=
  JE_steps 1000 [22] (by decide) h
theorem b_D_lay_22 {E : Env0} {dd : Nat} (x1 : Int32) {M : Mem} {Q : Int32 → Mem → Prop} (h :
    ((1000000 : Int32) ≤ x1 →
      Q x1 M) ∧
    (¬ (1000000 : Int32) ≤ x1 →
      CE E dd n_K_makeBestExchange [Sum.inr 17] M (fun r1 M1 =>
        (r1 = 0 →
          Q x1 M1) ∧
        (¬ r1 = 0 →
          JE E (dd + 1) n_D_lay 22 [some (Sum.inr 0), some (Sum.inl (x1 + 1))] [] M1 Q)))) : JE E (dd + 1) n_D_lay 22 [some (Sum.inr 0), some (Sum.inl x1)] [] M Q :=
  JE_steps 1000 [22] (by decide) h
theorem b_D_miss_0 {E : Env0} {dd : Nat} (x1 : Int32) {M : Mem} {Q : Int32 → Mem → Prop} (h :
    CE E dd n_D_isWithin [Sum.inl x1, Sum.inl 1, Sum.inl 200] M (fun r1 M1 =>
      (r1 = 0 →
        Z01 0 ∧ Q 0 M1) ∧
      (¬ r1 = 0 →
        vp_in x1 201 ∧
        ((M1 28 (Int32.toNatClampNeg x1)) = 0 →
          vp_in x1 201 ∧ Z01 1 ∧
          Z01 1 ∧ Q 1 (mset M1 28 (Int32.toNatClampNeg x1) 1)) ∧
        (¬ (M1 28 (Int32.toNatClampNeg x1)) = 0 →
          Z01 0 ∧ Q 0 M1)))) : JE E (dd + 1) n_D_miss 0 [some (Sum.inr 0), some (Sum.inl x1)] [] M Q :=
  JE_steps 1000 [] (by decide) h
theorem b_D_again_0 {E : Env0} {dd : Nat} (x1 : Int32) {M : Mem} {Q : Int32 → Mem → Prop} (h :
    CE E dd n_D_isWithin [Sum.inl x1, Sum.inl 0, Sum.inl 3] M (fun r1 M1 =>
      (¬ r1 = 0 →
        Z01 1 ∧ Q 1 (mset M1 26 6 x1)) ∧
      (r1 = 0 →
        Z01 0 ∧ Q 0 M1))) : JE E (dd + 1) n_D_again 0 [some (Sum.inr 0), some (Sum.inl x1)] [] M Q :=
  JE_steps 1000 [] (by decide) h
theorem b_D_run_0 {E : Env0} {dd : Nat}  {M : Mem} {Q : Int32 → Mem → Prop} (h :
    CE E dd n_K_isGood [Sum.inr 17] M (fun r1 M1 =>
      (¬ r1 = 0 →
        ((M1 26 7) = 0 →
          CE E dd n_T_begin [Sum.inr 26] M1 (fun r2 M2 =>
            CE E dd n_T_goOn [Sum.inr 26] M2 (fun r3 M3 =>
              Q (M3 27 3) M3))) ∧
        (¬ (M1 26 7) = 0 →
          ((M1 26 8) = 0 →
            CE E dd n_T_goOn [Sum.inr 26] M1 (fun r4 M4 =>
              Q (M4 27 3) M4)) ∧
          (¬ (M1 26 8) = 0 →
            CE E dd n_T_begin [Sum.inr 26] M1 (fun r5 M5 =>
              CE E dd n_T_goOn [Sum.inr 26] M5 (fun r6 M6 =>
                Q (M6 27 3) M6))))) ∧
      (r1 = 0 →
        Q (-1) M1))) : JE E (dd + 1) n_D_run 0 [some (Sum.inr 0)] [] M Q :=
  JE_steps 1000 [] (by decide) h
theorem b_D_told_0 {E : Env0} {dd : Nat} (x1 : Int32) {M : Mem} {Q : Int32 → Mem → Prop} (h :
    ((M 26 7) = 0 →
      Q (-1) M) ∧
    (¬ (M 26 7) = 0 →
      CE E dd n_T_tell [Sum.inr 26, Sum.inl x1] M (fun r1 M1 =>
        Q r1 M1))) : JE E (dd + 1) n_D_told 0 [some (Sum.inr 0), some (Sum.inl x1)] [] M Q :=
  JE_steps 1000 [] (by decide) h
theorem b_D_state_0 {E : Env0} {dd : Nat} (x1 : Int32) {M : Mem} {Q : Int32 → Mem → Prop} (h :
    CE E dd n_D_isPlace [Sum.inr 0, Sum.inl x1] M (fun r1 M1 =>
      (r1 = 0 →
        Q (-1) M1) ∧
      (¬ r1 = 0 →
        (¬ (M1 26 7) = 0 →
          CE E dd n_D_hasBit [Sum.inl (M1 26 14), Sum.inl x1] M1 (fun r2 M2 =>
            (r2 = 0 →
              CE E dd n_D_hasBit [Sum.inl (M2 26 15), Sum.inl x1] M2 (fun r3 M3 =>
                (r3 = 0 →
                  Q 0 M3) ∧
                (¬ r3 = 0 →
                  Q 2 M3))) ∧
            (¬ r2 = 0 →
              Q 1 M2))) ∧
        ((M1 26 7) = 0 →
          Q (-1) M1)))) : JE E (dd + 1) n_D_state 0 [some (Sum.inr 0), some (Sum.inl x1)] [] M Q :=
  JE_steps 1000 [] (by decide) h
theorem b_D_slot_0 {E : Env0} {dd : Nat} (x1 : Int32) (x2 : Int32) {M : Mem} {Q : Int32 → Mem → Prop} (h :
    CE E dd n_D_isWithin [Sum.inl x1, Sum.inl 0, Sum.inl 7] M (fun r1 M1 =>
      (¬ r1 = 0 →
        (x2 = 0 →
          vp_in x1 8 ∧
          Q (M1 12 (Int32.toNatClampNeg x1)) M1) ∧ (¬ x2 = 0 →
        (x2 = 1 →
          vp_in x1 8 ∧
          Q (M1 13 (Int32.toNatClampNeg x1)) M1) ∧ (¬ x2 = 1 →
          Q (-1) M1))) ∧
      (r1 = 0 →
        Q (-1) M1))) : JE E (dd + 1) n_D_slot 0 [some (Sum.inr 0), some (Sum.inl x1), some (Sum.inl x2)] [] M Q :=
  JE_steps 1000 [] (by decide) h
theorem b_D_count_0 {E : Env0} {dd : Nat} (x1 : Int32) {M : Mem} {Q : Int32 → Mem → Prop} (h :
    (x1 = 0 →
      Q (M 1 4) M) ∧ (¬ x1 = 0 →
    (x1 = 1 →
      Q (M 15 1) M) ∧ (¬ x1 = 1 →
    (x1 = 2 →
      CE E dd n_R_tours [Sum.inr 15] M (fun r1 M1 =>
        Q r1 M1)) ∧ (¬ x1 = 2 →
    (x1 = 3 →
      Q (M 14 0) M) ∧ (¬ x1 = 3 →
    (x1 = 4 →
      CE E dd n_B_pairs [Sum.inr 1] M (fun r2 M2 =>
        Q r2 M2)) ∧ (¬ x1 = 4 →
      Q (-1) M)))))) : JE E (dd + 1) n_D_count 0 [some (Sum.inr 0), some (Sum.inl x1)] [] M Q :=
  JE_steps 1000 [] (by decide) h
theorem b_D_isPlace_0 {E : Env0} {dd : Nat} (x1 : Int32) {M : Mem} {Q : Int32 → Mem → Prop} (h :
    CE E dd n_D_isWithin [Sum.inl x1, Sum.inl 0, Sum.inl ((M 1 4) - 1)] M (fun r1 M1 =>
      Z01 r1 ∧ Q r1 M1)) : JE E (dd + 1) n_D_isPlace 0 [some (Sum.inr 0), some (Sum.inl x1)] [] M Q :=
  JE_steps 1000 [] (by decide) h
theorem b_D_areTwoPlaces_0 {E : Env0} {dd : Nat} (x1 : Int32) (x2 : Int32) {M : Mem} {Q : Int32 → Mem → Prop} (h :
    CE E dd n_D_isPlace [Sum.inr 0, Sum.inl x1] M (fun r1 M1 =>
      (r1 = 0 →
        Z01 0 ∧ Q 0 M1) ∧
      (¬ r1 = 0 →
        CE E dd n_D_isPlace [Sum.inr 0, Sum.inl x2] M1 (fun r2 M2 =>
          (r2 = 0 →
            Z01 0 ∧ Q 0 M2) ∧
          (¬ r2 = 0 →
            (x1 = x2 →
              Z01 0 ∧ Q 0 M2) ∧
            (¬ x1 = x2 →
              Z01 1 ∧ Q 1 M2)))))) : JE E (dd + 1) n_D_areTwoPlaces 0 [some (Sum.inr 0), some (Sum.inl x1), some (Sum.inl x2)] [] M Q :=
  JE_steps 1000 [] (by decide) h
theorem b_D_dropPlan_0 {E : Env0} {dd : Nat}  {M : Mem} {Q : Int32 → Mem → Prop} (h :
    CE E dd n_R_empty [Sum.inr 15] M (fun r1 M1 =>
      Z01 0 ∧
      Q 0 (mset M1 26 7 0))) : JE E (dd + 1) n_D_dropPlan 0 [some (Sum.inr 0)] [] M Q :=
  JE_steps 1000 [] (by decide) h
