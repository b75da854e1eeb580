/-! printed by wip/gen/allblocks.py: what each body owes at its cuts -/
theorem b_M_lies_0 {E : Env0} {d : Nat} (x0 : Int32) (x1 : Int32) (x2 : Int32) {M : Mem} {Q : Int32 → Mem → Prop} (h :
    (x0 < x1 →
      Z01 0 ∧ Q 0 M) ∧
    (¬ x0 < x1 →
      (x2 < x0 →
        Z01 0 ∧ Q 0 M) ∧
      (¬ x2 < x0 →
        Z01 1 ∧ Q 1 M))) : JE E (d) n_M_lies 0 [some (Sum.inl x0), some (Sum.inl x1), some (Sum.inl x2)] [] M Q :=
  JE_steps 1000 [] (by decide) h
theorem b_M_isPlace_0 {E : Env0} {dd : Nat} (x1 : Int32) {M : Mem} {Q : Int32 → Mem → Prop} (h :
    CE E dd n_M_lies [Sum.inl x1, Sum.inl 0, Sum.inl ((M 31 4) - 1)] M (fun r1 M1 =>
      Z01 r1 ∧ Q r1 M1)) : JE E (dd + 1) n_M_isPlace 0 [some (Sum.inr 31), some (Sum.inl x1)] [] M Q :=
  JE_steps 1000 [] (by decide) h
theorem b_M_far_0 {E : Env0} {d : Nat} (x0 : Int32) (x1 : Int32) {M : Mem} {Q : Int32 → Mem → Prop} (h :
    (x1 ≤ x0 →
      Q (x0 - x1) M) ∧
    (¬ x1 ≤ x0 →
      Q (x1 - x0) M)) : JE E (d) n_M_far 0 [some (Sum.inl x0), some (Sum.inl x1)] [] M Q :=
  JE_steps 1000 [] (by decide) h
theorem b_M_move_0 {E : Env0} {dd : Nat} (x0 : Int32) (x1 : Int32) (x2 : Int32) (x3 : Int32) {M : Mem} {Q : Int32 → Mem → Prop} (h :
    CE E dd n_M_far [Sum.inl x0, Sum.inl x2] M (fun r1 M1 =>
      CE E dd n_M_far [Sum.inl x1, Sum.inl x3] M1 (fun r2 M2 =>
        (r1 ≤ r2 →
          CE E dd n_M_far [Sum.inl x1, Sum.inl x3] M2 (fun r3 M3 =>
            Q r3 M3)) ∧
        (¬ r1 ≤ r2 →
          CE E dd n_M_far [Sum.inl x0, Sum.inl x2] M2 (fun r4 M4 =>
            Q r4 M4))))) : JE E (dd + 1) n_M_move 0 [some (Sum.inl x0), some (Sum.inl x1), some (Sum.inl x2), some (Sum.inl x3)] [] M Q :=
  JE_steps 1000 [] (by decide) h
theorem b_M_kind_0 {E : Env0} {dd : Nat} (x1 : Int32) (x2 : Int32) (x3 : Int32) (x4 : Int32) (x5 : Int32) {M : Mem} {Q : Int32 → Mem → Prop} (h :
    CE E dd n_M_lies [Sum.inl x1, Sum.inl 0, Sum.inl 7] M (fun r1 M1 =>
      (r1 = 0 →
        Z01 0 ∧ Q 0 M1) ∧
      (¬ r1 = 0 →
        CE E dd n_M_lies [Sum.inl x2, Sum.inl 1, Sum.inl 20] M1 (fun r2 M2 =>
          (r2 = 0 →
            Z01 0 ∧ Q 0 M2) ∧
          (¬ r2 = 0 →
            CE E dd n_M_lies [Sum.inl x3, Sum.inl 1, Sum.inl 9] M2 (fun r3 M3 =>
              (r3 = 0 →
                Z01 0 ∧ Q 0 M3) ∧
              (¬ r3 = 0 →
                CE E dd n_M_lies [Sum.inl x4, Sum.inl 0, Sum.inl 2] M3 (fun r4 M4 =>
                  (¬ r4 = 0 →
                    JE E (dd + 1) n_M_kind 45 [some (Sum.inr 31), some (Sum.inl x1), some (Sum.inl x2), some (Sum.inl x3), some (Sum.inl x4), some (Sum.inl x5), some (Sum.inl 0)] [] M4 Q) ∧
                  (r4 = 0 →
                    Z01 0 ∧ Q 0 M4))))))))) : JE E (dd + 1) n_M_kind 0 [some (Sum.inr 31), some (Sum.inl x1), some (Sum.inl x2), some (Sum.inl x3), some (Sum.inl x4), some (Sum.inl x5), none] [] M Q :=
  JE_steps 1000 [45] (by decide) h
theorem b_M_kind_45 {E : Env0} {d : Nat} (x1 : Int32) (x2 : Int32) (x3 : Int32) (x4 : Int32) (x5 : Int32) (x6 : Int32) {M : Mem} {Q : Int32 → Mem → Prop} (h :
    ((M 31 4) ≤ x6 →
      vp_in x1 8 ∧ 
      vp_in x1 8 ∧ 
      vp_in x1 8 ∧ 
      vp_in x1 8 ∧ Z01 x5 ∧
      Z01 1 ∧ Q 1 (mset (mset (mset (mset M 32 (Int32.toNatClampNeg x1) x2) 33 (Int32.toNatClampNeg x1) x3) 34 (Int32.toNatClampNeg x1) x4) 35 (Int32.toNatClampNeg x1) x5)) ∧
    (¬ (M 31 4) ≤ x6 →
      vp_in x6 10 ∧
      (¬ (M 38 (Int32.toNatClampNeg x6)) = x1 →
        JE E d n_M_kind 45 [some (Sum.inr 31), some (Sum.inl x1), some (Sum.inl x2), some (Sum.inl x3), some (Sum.inl x4), some (Sum.inl x5), some (Sum.inl (x6 + 1))] [] M Q) ∧
      ((M 38 (Int32.toNatClampNeg x6)) = x1 →
        Z01 0 ∧ Q 0 M))) : JE E (d) n_M_kind 45 [some (Sum.inr 31), some (Sum.inl x1), some (Sum.inl x2), some (Sum.inl x3), some (Sum.inl x4), some (Sum.inl x5), some (Sum.inl x6)] [] M Q :=
  JE_steps 1000 [45] (by decide) h
theorem b_M_areWithin_0 {E : Env0} {dd : Nat} (x1 : Int32) (x2 : Int32) (x3 : Int32) {M : Mem} {Q : Int32 → Mem → Prop} (h :
    vp_in x1 10 ∧
    vp_in (M 38 (Int32.toNatClampNeg x1)) 8 ∧
    vp_in x2 10 ∧
    vp_in (M 38 (Int32.toNatClampNeg x2)) 8 ∧
    vp_in x1 10 ∧
    vp_in x2 10 ∧
    CE E dd n_M_far [Sum.inl (M 36 (Int32.toNatClampNeg x1)), Sum.inl (M 36 (Int32.toNatClampNeg x2))] M (fun r1 M1 =>
      ((((M 32 (Int32.toNatClampNeg (M 38 (Int32.toNatClampNeg x1)))) + (M 32 (Int32.toNatClampNeg (M 38 (Int32.toNatClampNeg x2))))) + x3) ≤ r1 →
        Z01 0 ∧ Q 0 M1) ∧
      (¬ (((M 32 (Int32.toNatClampNeg (M 38 (Int32.toNatClampNeg x1)))) + (M 32 (Int32.toNatClampNeg (M 38 (Int32.toNatClampNeg x2))))) + x3) ≤ r1 →
        vp_in x1 10 ∧
        vp_in x2 10 ∧
        CE E dd n_M_far [Sum.inl (M1 37 (Int32.toNatClampNeg x1)), Sum.inl (M1 37 (Int32.toNatClampNeg x2))] M1 (fun r2 M2 =>
          ((((M 32 (Int32.toNatClampNeg (M 38 (Int32.toNatClampNeg x1)))) + (M 32 (Int32.toNatClampNeg (M 38 (Int32.toNatClampNeg x2))))) + x3) ≤ r2 →
            Z01 0 ∧ Q 0 M2) ∧
          (¬ (((M 32 (Int32.toNatClampNeg (M 38 (Int32.toNatClampNeg x1)))) + (M 32 (Int32.toNatClampNeg (M 38 (Int32.toNatClampNeg x2))))) + x3) ≤ r2 →
            Z01 1 ∧ Q 1 M2))))) : JE E (dd + 1) n_M_areWithin 0 [some (Sum.inr 31), some (Sum.inl x1), some (Sum.inl x2), some (Sum.inl x3), none] [] M Q :=
  JE_steps 1000 [] (by decide) h
theorem b_M_isAhead_0 {E : Env0} {dd : Nat} (x1 : Int32) (x2 : Int32) {M : Mem} {Q : Int32 → Mem → Prop} (h :
    vp_in ((10 * x2) + x1) 100 ∧
    (¬ (M 39 (Int32.toNatClampNeg ((10 * x2) + x1))) = 0 →
      Z01 1 ∧ Q 1 M) ∧
    ((M 39 (Int32.toNatClampNeg ((10 * x2) + x1))) = 0 →
      CE E dd n_M_areWithin [Sum.inr 31, Sum.inl x1, Sum.inl x2, Sum.inl 3] M (fun r1 M1 =>
        (r1 = 0 →
          Z01 0 ∧ Q 0 M1) ∧
        (¬ r1 = 0 →
          vp_in x1 10 ∧
          vp_in (M1 38 (Int32.toNatClampNeg x1)) 8 ∧
          vp_in x2 10 ∧
          vp_in (M1 38 (Int32.toNatClampNeg x2)) 8 ∧
          ((M1 33 (Int32.toNatClampNeg (M1 38 (Int32.toNatClampNeg x2)))) ≤ (M1 33 (Int32.toNatClampNeg (M1 38 (Int32.toNatClampNeg x1)))) →
            Z01 0 ∧ Q 0 M1) ∧
          (¬ (M1 33 (Int32.toNatClampNeg (M1 38 (Int32.toNatClampNeg x2)))) ≤ (M1 33 (Int32.toNatClampNeg (M1 38 (Int32.toNatClampNeg x1)))) →
            Z01 1 ∧ Q 1 M1))))) : JE E (dd + 1) n_M_isAhead 0 [some (Sum.inr 31), some (Sum.inl x1), some (Sum.inl x2)] [] M Q :=
  JE_steps 1000 [] (by decide) h
theorem b_M_isRing_0 {E : Env0} {d : Nat}  {M : Mem} {Q : Int32 → Mem → Prop} (h :
    JE E d n_M_isRing 2 [some (Sum.inr 31), some (Sum.inl 0), none, none, none, none] [] M Q) : JE E (d) n_M_isRing 0 [some (Sum.inr 31), none, none, none, none, none] [] M Q :=
  JE_steps 1000 [2, 30, 38, 65] (by decide) h
theorem b_M_isRing_2 {E : Env0} {d : Nat} (x1 : Int32) (o2 : Option V) (o3 : Option V) (o4 : Option V) (o5 : Option V) {M : Mem} {Q : Int32 → Mem → Prop} (h :
    ((M 31 4) ≤ x1 →
      JE E d n_M_isRing 30 [some (Sum.inr 31), some (Sum.inl (M 31 4)), some (Sum.inl 1), o3, o4, o5] [] M Q) ∧
    (¬ (M 31 4) ≤ x1 →
      vp_in x1 10 ∧ Z01 0 ∧
      JE E d n_M_isRing 2 [some (Sum.inr 31), some (Sum.inl (x1 + 1)), o2, o3, o4, o5] [] (mset M 44 (Int32.toNatClampNeg x1) 0) Q)) : JE E (d) n_M_isRing 2 [some (Sum.inr 31), some (Sum.inl x1), o2, o3, o4, o5] [] M Q :=
  JE_steps 1000 [2, 30, 38, 65] (by decide) h
theorem b_M_isRing_30 {E : Env0} {d : Nat} (x1 : Int32) (x2 : Int32) (o3 : Option V) (o4 : Option V) (o5 : Option V) {M : Mem} {Q : Int32 → Mem → Prop} (h :
    (x2 = 0 →
      (x1 ≤ 0 →
        Z01 0 ∧ Q 0 M) ∧
      (¬ x1 ≤ 0 →
        Z01 1 ∧ Q 1 M)) ∧
    (¬ x2 = 0 →
      JE E d n_M_isRing 38 [some (Sum.inr 31), some (Sum.inl x1), some (Sum.inl 0), some (Sum.inl 0), o4, o5] [] M Q)) : JE E (d) n_M_isRing 30 [some (Sum.inr 31), some (Sum.inl x1), some (Sum.inl x2), o3, o4, o5] [] M Q :=
  JE_steps 1000 [2, 30, 38, 65] (by decide) h
theorem b_M_isRing_38 {E : Env0} {d : Nat} (x1 : Int32) (x2 : Int32) (x3 : Int32) (o4 : Option V) (o5 : Option V) {M : Mem} {Q : Int32 → Mem → Prop} (h :
    ((M 31 4) ≤ x3 →
      JE E d n_M_isRing 30 [some (Sum.inr 31), some (Sum.inl x1), some (Sum.inl x2), some (Sum.inl x3), o4, o5] [] M Q) ∧
    (¬ (M 31 4) ≤ x3 →
      vp_in x3 10 ∧
      (¬ (M 44 (Int32.toNatClampNeg x3)) = 0 →
        JE E d n_M_isRing 65 [some (Sum.inr 31), some (Sum.inl x1), some (Sum.inl x2), some (Sum.inl x3), some (Sum.inl 0), some (Sum.inl 0)] [] M Q) ∧
      ((M 44 (Int32.toNatClampNeg x3)) = 0 →
        JE E d n_M_isRing 65 [some (Sum.inr 31), some (Sum.inl x1), some (Sum.inl x2), some (Sum.inl x3), some (Sum.inl 1), some (Sum.inl 0)] [] M Q))) : JE E (d) n_M_isRing 38 [some (Sum.inr 31), some (Sum.inl x1), some (Sum.inl x2), some (Sum.inl x3), o4, o5] [] M Q :=
  JE_steps 1000 [2, 30, 38, 65] (by decide) h
theorem b_M_isRing_65 {E : Env0} {dd : Nat} (x1 : Int32) (x2 : Int32) (x3 : Int32) (x4 : Int32) (x5 : Int32) {M : Mem} {Q : Int32 → Mem → Prop} (h :
    ((M 31 4) ≤ x5 →
      (¬ x4 = 0 →
        vp_in x3 10 ∧ Z01 1 ∧
        JE E (dd + 1) n_M_isRing 38 [some (Sum.inr 31), some (Sum.inl (x1 + (-1))), some (Sum.inl 1), some (Sum.inl (x3 + 1)), some (Sum.inl x4), some (Sum.inl x5)] [] (mset M 44 (Int32.toNatClampNeg x3) 1) Q) ∧
      (x4 = 0 →
        JE E (dd + 1) n_M_isRing 38 [some (Sum.inr 31), some (Sum.inl x1), some (Sum.inl x2), some (Sum.inl (x3 + 1)), some (Sum.inl x4), some (Sum.inl x5)] [] M Q)) ∧
    (¬ (M 31 4) ≤ x5 →
      (x5 = x3 →
        JE E (dd + 1) n_M_isRing 65 [some (Sum.inr 31), some (Sum.inl x1), some (Sum.inl x2), some (Sum.inl x3), some (Sum.inl x4), some (Sum.inl (x5 + 1))] [] M Q) ∧
      (¬ x5 = x3 →
        vp_in x5 10 ∧
        (¬ (M 44 (Int32.toNatClampNeg x5)) = 0 →
          JE E (dd + 1) n_M_isRing 65 [some (Sum.inr 31), some (Sum.inl x1), some (Sum.inl x2), some (Sum.inl x3), some (Sum.inl x4), some (Sum.inl (x5 + 1))] [] M Q) ∧
        ((M 44 (Int32.toNatClampNeg x5)) = 0 →
          CE E dd n_M_isAhead [Sum.inr 31, Sum.inl x5, Sum.inl x3] M (fun r1 M1 =>
            (r1 = 0 →
              JE E (dd + 1) n_M_isRing 65 [some (Sum.inr 31), some (Sum.inl x1), some (Sum.inl x2), some (Sum.inl x3), some (Sum.inl x4), some (Sum.inl (x5 + 1))] [] M1 Q) ∧
            (¬ r1 = 0 →
              JE E (dd + 1) n_M_isRing 65 [some (Sum.inr 31), some (Sum.inl x1), some (Sum.inl x2), some (Sum.inl x3), some (Sum.inl 0), some (Sum.inl (x5 + 1))] [] M1 Q)))))) : JE E (dd + 1) n_M_isRing 65 [some (Sum.inr 31), some (Sum.inl x1), some (Sum.inl x2), some (Sum.inl x3), some (Sum.inl x4), some (Sum.inl x5)] [] M Q :=
  JE_steps 1000 [2, 30, 38, 65] (by decide) h
theorem b_M_place_0 {E : Env0} {dd : Nat} (x1 : Int32) (x2 : Int32) (x3 : Int32) {M : Mem} {Q : Int32 → Mem → Prop} (h :
    CE E dd n_M_lies [Sum.inl x1, Sum.inl 0, Sum.inl 199] M (fun r1 M1 =>
      (r1 = 0 →
        Q (-1) M1) ∧
      (¬ r1 = 0 →
        CE E dd n_M_lies [Sum.inl x2, Sum.inl 0, Sum.inl 199] M1 (fun r2 M2 =>
          (r2 = 0 →
            Q (-1) M2) ∧
          (¬ r2 = 0 →
            CE E dd n_M_lies [Sum.inl x3, Sum.inl 0, Sum.inl 7] M2 (fun r3 M3 =>
              (r3 = 0 →
                Q (-1) M3) ∧
              (¬ r3 = 0 →
                (¬ (M3 31 4) = (10 : Int32) →
                  vp_in (M3 31 4) 10 ∧ 
                  vp_in (M3 31 4) 10 ∧ 
                  vp_in (M3 31 4) 10 ∧ 
                  JE E (dd + 1) n_M_place 76 [some (Sum.inr 31), some (Sum.inl x1), some (Sum.inl x2), some (Sum.inl x3), some (Sum.inl 0)] [] (mset (mset (mset M3 36 (Int32.toNatClampNeg (M3 31 4)) x1) 37 (Int32.toNatClampNeg (M3 31 4)) x2) 38 (Int32.toNatClampNeg (M3 31 4)) x3) Q) ∧
                ((M3 31 4) = (10 : Int32) →
                  Q (-1) M3)))))))) : JE E (dd + 1) n_M_place 0 [some (Sum.inr 31), some (Sum.inl x1), some (Sum.inl x2), some (Sum.inl x3), none] [] M Q :=
  JE_steps 1000 [76] (by decide) h
theorem b_M_place_76 {E : Env0} {dd : Nat} (o1 : Option V) (o2 : Option V) (o3 : Option V) (x4 : Int32) {M : Mem} {Q : Int32 → Mem → Prop} (h :
    ((M 31 4) ≤ x4 →
      CE E dd n_M_isRing [Sum.inr 31] (mset M 31 4 ((M 31 4) + 1)) (fun r1 M1 =>
        (r1 = 0 →
          Z01 0 ∧
          Z01 0 ∧
          Q ((M1 31 4) - 1) (mset (mset (mset M1 31 16 0) 31 30 0) 31 28 0)) ∧
        (¬ r1 = 0 →
          Q (-1) (mset M1 31 4 ((M1 31 4) - 1))))) ∧
    (¬ (M 31 4) ≤ x4 →
      CE E dd n_M_areWithin [Sum.inr 31, Sum.inl x4, Sum.inl (M 31 4), Sum.inl 0] M (fun r2 M2 =>
        (r2 = 0 →
          JE E (dd + 1) n_M_place 76 [some (Sum.inr 31), o1, o2, o3, some (Sum.inl (x4 + 1))] [] M2 Q) ∧
        (¬ r2 = 0 →
          Q (-1) M2)))) : JE E (dd + 1) n_M_place 76 [some (Sum.inr 31), o1, o2, o3, some (Sum.inl x4)] [] M Q :=
  JE_steps 1000 [76] (by decide) h
theorem b_M_late_0 {E : Env0} {dd : Nat} (x1 : Int32) (x2 : Int32) {M : Mem} {Q : Int32 → Mem → Prop} (h :
    CE E dd n_M_isPlace [Sum.inr 31, Sum.inl x1] M (fun r1 M1 =>
      (r1 = 0 →
        Z01 0 ∧ Q 0 M1) ∧
      (¬ r1 = 0 →
        CE E dd n_M_isPlace [Sum.inr 31, Sum.inl x2] M1 (fun r2 M2 =>
          (r2 = 0 →
            Z01 0 ∧ Q 0 M2) ∧
          (¬ r2 = 0 →
            (x1 = x2 →
              Z01 0 ∧ Q 0 M2) ∧
            (¬ x1 = x2 →
              vp_in ((10 * x1) + x2) 100 ∧
              ((M2 39 (Int32.toNatClampNeg ((10 * x1) + x2))) = 0 →
                vp_in ((10 * x1) + x2) 100 ∧ Z01 1 ∧
                CE E dd n_M_isRing [Sum.inr 31] (mset M2 39 (Int32.toNatClampNeg ((10 * x1) + x2)) 1) (fun r3 M3 =>
                  (r3 = 0 →
                    Z01 0 ∧
                    Z01 0 ∧
                    Z01 1 ∧ Q 1 (mset (mset (mset M3 31 16 0) 31 30 0) 31 28 0)) ∧
                  (¬ r3 = 0 →
                    vp_in ((10 * x1) + x2) 100 ∧ Z01 0 ∧
                    Z01 0 ∧ Q 0 (mset M3 39 (Int32.toNatClampNeg ((10 * x1) + x2)) 0)))) ∧
              (¬ (M2 39 (Int32.toNatClampNeg ((10 * x1) + x2))) = 0 →
                Z01 0 ∧ Q 0 M2))))))) : JE E (dd + 1) n_M_late 0 [some (Sum.inr 31), some (Sum.inl x1), some (Sum.inl x2)] [] M Q :=
  JE_steps 1000 [] (by decide) h
theorem b_M_ahead_0 {E : Env0} {dd : Nat} (x1 : Int32) (x2 : Int32) {M : Mem} {Q : Int32 → Mem → Prop} (h :
    CE E dd n_M_isPlace [Sum.inr 31, Sum.inl x1] M (fun r1 M1 =>
      (r1 = 0 →
        Q (-1) M1) ∧
      (¬ r1 = 0 →
        CE E dd n_M_isPlace [Sum.inr 31, Sum.inl x2] M1 (fun r2 M2 =>
          (r2 = 0 →
            Q (-1) M2) ∧
          (¬ r2 = 0 →
            (¬ x1 = x2 →
              CE E dd n_M_isAhead [Sum.inr 31, Sum.inl x1, Sum.inl x2] M2 (fun r3 M3 =>
                (r3 = 0 →
                  Q 0 M3) ∧
                (¬ r3 = 0 →
                  Q 1 M3))) ∧
            (x1 = x2 →
              Q (-1) M2)))))) : JE E (dd + 1) n_M_ahead 0 [some (Sum.inr 31), some (Sum.inl x1), some (Sum.inl x2)] [] M Q :=
  JE_steps 1000 [] (by decide) h
theorem b_M_feeder_0 {E : Env0} {dd : Nat} (x1 : Int32) (x2 : Int32) (x3 : Int32) {M : Mem} {Q : Int32 → Mem → Prop} (h :
    CE E dd n_M_lies [Sum.inl x1, Sum.inl 0, Sum.inl 7] M (fun r1 M1 =>
      (r1 = 0 →
        Z01 0 ∧ Q 0 M1) ∧
      (¬ r1 = 0 →
        CE E dd n_M_lies [Sum.inl x2, Sum.inl (-1), Sum.inl 7] M1 (fun r2 M2 =>
          (r2 = 0 →
            Z01 0 ∧ Q 0 M2) ∧
          (¬ r2 = 0 →
            (x2 = ((-1) : Int32) →
              ((M2 31 28) = 0 →
                Z01 0 ∧
                vp_in x1 8 ∧ 
                (¬ x2 = ((-1) : Int32) →
                  vp_in x1 8 ∧ 
                  Z01 1 ∧ Q 1 (mset (mset (mset M2 31 28 0) 40 (Int32.toNatClampNeg x1) x2) 41 (Int32.toNatClampNeg x1) x3)) ∧
                (x2 = ((-1) : Int32) →
                  vp_in x1 8 ∧ 
                  Z01 1 ∧ Q 1 (mset (mset (mset M2 31 28 0) 40 (Int32.toNatClampNeg x1) x2) 41 (Int32.toNatClampNeg x1) 0))) ∧
              (¬ (M2 31 28) = 0 →
                vp_in x1 8 ∧
                (¬ (M2 40 (Int32.toNatClampNeg x1)) = x2 →
                  Z01 0 ∧
                  vp_in x1 8 ∧ 
                  (¬ x2 = ((-1) : Int32) →
                    vp_in x1 8 ∧ 
                    Z01 1 ∧ Q 1 (mset (mset (mset M2 31 28 0) 40 (Int32.toNatClampNeg x1) x2) 41 (Int32.toNatClampNeg x1) x3)) ∧
                  (x2 = ((-1) : Int32) →
                    vp_in x1 8 ∧ 
                    Z01 1 ∧ Q 1 (mset (mset (mset M2 31 28 0) 40 (Int32.toNatClampNeg x1) x2) 41 (Int32.toNatClampNeg x1) 0))) ∧
                ((M2 40 (Int32.toNatClampNeg x1)) = x2 →
                  Z01 1 ∧
                  vp_in x1 8 ∧ 
                  (¬ x2 = ((-1) : Int32) →
                    vp_in x1 8 ∧ 
                    Z01 1 ∧ Q 1 (mset (mset (mset M2 31 28 1) 40 (Int32.toNatClampNeg x1) x2) 41 (Int32.toNatClampNeg x1) x3)) ∧
                  (x2 = ((-1) : Int32) →
                    vp_in x1 8 ∧ 
                    Z01 1 ∧ Q 1 (mset (mset (mset M2 31 28 1) 40 (Int32.toNatClampNeg x1) x2) 41 (Int32.toNatClampNeg x1) 0))))) ∧
            (¬ x2 = ((-1) : Int32) →
              CE E dd n_M_lies [Sum.inl x3, Sum.inl 0, Sum.inl 100] M2 (fun r3 M3 =>
                (¬ r3 = 0 →
                  ((M3 31 28) = 0 →
                    Z01 0 ∧
                    vp_in x1 8 ∧ 
                    (¬ x2 = ((-1) : Int32) →
                      vp_in x1 8 ∧ 
                      Z01 1 ∧ Q 1 (mset (mset (mset M3 31 28 0) 40 (Int32.toNatClampNeg x1) x2) 41 (Int32.toNatClampNeg x1) x3)) ∧
                    (x2 = ((-1) : Int32) →
                      vp_in x1 8 ∧ 
                      Z01 1 ∧ Q 1 (mset (mset (mset M3 31 28 0) 40 (Int32.toNatClampNeg x1) x2) 41 (Int32.toNatClampNeg x1) 0))) ∧
                  (¬ (M3 31 28) = 0 →
                    vp_in x1 8 ∧
                    (¬ (M3 40 (Int32.toNatClampNeg x1)) = x2 →
                      Z01 0 ∧
                      vp_in x1 8 ∧ 
                      (¬ x2 = ((-1) : Int32) →
                        vp_in x1 8 ∧ 
                        Z01 1 ∧ Q 1 (mset (mset (mset M3 31 28 0) 40 (Int32.toNatClampNeg x1) x2) 41 (Int32.toNatClampNeg x1) x3)) ∧
                      (x2 = ((-1) : Int32) →
                        vp_in x1 8 ∧ 
                        Z01 1 ∧ Q 1 (mset (mset (mset M3 31 28 0) 40 (Int32.toNatClampNeg x1) x2) 41 (Int32.toNatClampNeg x1) 0))) ∧
                    ((M3 40 (Int32.toNatClampNeg x1)) = x2 →
                      Z01 1 ∧
                      vp_in x1 8 ∧ 
                      (¬ x2 = ((-1) : Int32) →
                        vp_in x1 8 ∧ 
                        Z01 1 ∧ Q 1 (mset (mset (mset M3 31 28 1) 40 (Int32.toNatClampNeg x1) x2) 41 (Int32.toNatClampNeg x1) x3)) ∧
                      (x2 = ((-1) : Int32) →
                        vp_in x1 8 ∧ 
                        Z01 1 ∧ Q 1 (mset (mset (mset M3 31 28 1) 40 (Int32.toNatClampNeg x1) x2) 41 (Int32.toNatClampNeg x1) 0))))) ∧
                (r3 = 0 →
                  Z01 0 ∧ Q 0 M3)))))))) : JE E (dd + 1) n_M_feeder 0 [some (Sum.inr 31), some (Sum.inl x1), some (Sum.inl x2), some (Sum.inl x3)] [] M Q :=
  JE_steps 1000 [] (by decide) h
theorem b_M_machine_0 {E : Env0} {dd : Nat} (x1 : Int32) (x2 : Int32) (x3 : Int32) (x4 : Int32) (x5 : Int32) {M : Mem} {Q : Int32 → Mem → Prop} (h :
    CE E dd n_M_lies [Sum.inl x1, Sum.inl 1, Sum.inl 4] M (fun r1 M1 =>
      (r1 = 0 →
        Z01 0 ∧ Q 0 M1) ∧
      (¬ r1 = 0 →
        CE E dd n_M_lies [Sum.inl x2, Sum.inl 1, Sum.inl 20] M1 (fun r2 M2 =>
          (r2 = 0 →
            Z01 0 ∧ Q 0 M2) ∧
          (¬ r2 = 0 →
            CE E dd n_M_lies [Sum.inl x3, Sum.inl 1, Sum.inl 20] M2 (fun r3 M3 =>
              (r3 = 0 →
                Z01 0 ∧ Q 0 M3) ∧
              (¬ r3 = 0 →
                CE E dd n_M_lies [Sum.inl x4, Sum.inl 0, Sum.inl 20] M3 (fun r4 M4 =>
                  (r4 = 0 →
                    Z01 0 ∧ Q 0 M4) ∧
                  (¬ r4 = 0 →
                    CE E dd n_M_lies [Sum.inl x5, Sum.inl 0, Sum.inl 50] M4 (fun r5 M5 =>
                      (¬ r5 = 0 →
                        Z01 0 ∧
                        Z01 0 ∧
                        Z01 1 ∧ Q 1 (mset (mset (mset (mset (mset (mset (mset (mset M5 31 11 x1) 31 12 x2) 31 13 x3) 31 14 x4) 31 15 x5) 31 28 0) 31 16 0) 31 30 0)) ∧
                      (r5 = 0 →
                        Z01 0 ∧ Q 0 M5))))))))))) : JE E (dd + 1) n_M_machine 0 [some (Sum.inr 31), some (Sum.inl x1), some (Sum.inl x2), some (Sum.inl x3), some (Sum.inl x4), some (Sum.inl x5)] [] M Q :=
  JE_steps 1000 [] (by decide) h
theorem b_M_then_0 {E : Env0} {dd : Nat} (x1 : Int32) (x2 : Int32) {M : Mem} {Q : Int32 → Mem → Prop} (h :
    CE E dd n_M_isPlace [Sum.inr 31, Sum.inl x1] M (fun r1 M1 =>
      (¬ r1 = 0 →
        JE E (dd + 1) n_M_then 12 [some (Sum.inr 31), some (Sum.inl x1), some (Sum.inl x2), some (Sum.inl 0)] [] M1 Q) ∧
      (r1 = 0 →
        Q (-1) M1))) : JE E (dd + 1) n_M_then 0 [some (Sum.inr 31), some (Sum.inl x1), some (Sum.inl x2), none] [] M Q :=
  JE_steps 1000 [12] (by decide) h
theorem b_M_then_12 {E : Env0} {d : Nat} (x1 : Int32) (x2 : Int32) (x3 : Int32) {M : Mem} {Q : Int32 → Mem → Prop} (h :
    ((M 31 16) ≤ x3 →
      (¬ x2 = 0 →
        vp_in (M 31 16) 10 ∧ 
        Z01 0 ∧
        Q ((M 31 16) + 1) (mset (mset (mset M 42 (Int32.toNatClampNeg (M 31 16)) (x1 + 16)) 31 16 ((M 31 16) + 1)) 31 30 0)) ∧
      (x2 = 0 →
        (¬ (M 31 16) = 0 →
          vp_in (M 31 16) 10 ∧ 
          Z01 0 ∧
          Q ((M 31 16) + 1) (mset (mset (mset M 42 (Int32.toNatClampNeg (M 31 16)) (x1 + 0)) 31 16 ((M 31 16) + 1)) 31 30 0)) ∧
        ((M 31 16) = 0 →
          vp_in (M 31 16) 10 ∧ 
          Z01 0 ∧
          Q ((M 31 16) + 1) (mset (mset (mset M 42 (Int32.toNatClampNeg (M 31 16)) (x1 + 16)) 31 16 ((M 31 16) + 1)) 31 30 0)))) ∧
    (¬ (M 31 16) ≤ x3 →
      vp_in x3 10 ∧
      NZ 16 ∧
      (¬ ((M 42 (Int32.toNatClampNeg x3)) - (M 42 (Int32.toNatClampNeg x3)) / 16 * 16) = x1 →
        JE E d n_M_then 12 [some (Sum.inr 31), some (Sum.inl x1), some (Sum.inl x2), some (Sum.inl (x3 + 1))] [] M Q) ∧
      (((M 42 (Int32.toNatClampNeg x3)) - (M 42 (Int32.toNatClampNeg x3)) / 16 * 16) = x1 →
        Q (-1) M))) : JE E (d) n_M_then 12 [some (Sum.inr 31), some (Sum.inl x1), some (Sum.inl x2), some (Sum.inl x3)] [] M Q :=
  JE_steps 1000 [12] (by decide) h
theorem b_M_clear_0 {E : Env0} {d : Nat}  {M : Mem} {Q : Int32 → Mem → Prop} (h :
    Z01 0 ∧
    Q 0 (mset (mset M 31 16 0) 31 30 0)) : JE E (d) n_M_clear 0 [some (Sum.inr 31)] [] M Q :=
  JE_steps 1000 [] (by decide) h
theorem b_M_slotOf_0 {E : Env0} {d : Nat} (x1 : Int32) {M : Mem} {Q : Int32 → Mem → Prop} (h :
    JE E d n_M_slotOf 2 [some (Sum.inr 31), some (Sum.inl x1), some (Sum.inl 0)] [] M Q) : JE E (d) n_M_slotOf 0 [some (Sum.inr 31), some (Sum.inl x1), none] [] M Q :=
  JE_steps 1000 [2] (by decide) h
theorem b_M_slotOf_2 {E : Env0} {d : Nat} (x1 : Int32) (x2 : Int32) {M : Mem} {Q : Int32 → Mem → Prop} (h :
    ((8 : Int32) ≤ x2 →
      Q (-1) M) ∧
    (¬ (8 : Int32) ≤ x2 →
      vp_in x2 8 ∧
      (¬ (M 40 (Int32.toNatClampNeg x2)) = x1 →
        JE E d n_M_slotOf 2 [some (Sum.inr 31), some (Sum.inl x1), some (Sum.inl (x2 + 1))] [] M Q) ∧
      ((M 40 (Int32.toNatClampNeg x2)) = x1 →
        Q x2 M))) : JE E (d) n_M_slotOf 2 [some (Sum.inr 31), some (Sum.inl x1), some (Sum.inl x2)] [] M Q :=
  JE_steps 1000 [2] (by decide) h
theorem b_M_kindAt_0 {E : Env0} {d : Nat} (x1 : Int32) {M : Mem} {Q : Int32 → Mem → Prop} (h :
    vp_in x1 10 ∧
    NZ 16 ∧
    vp_in ((M 42 (Int32.toNatClampNeg x1)) - (M 42 (Int32.toNatClampNeg x1)) / 16 * 16) 10 ∧
    Q (M 38 (Int32.toNatClampNeg ((M 42 (Int32.toNatClampNeg x1)) - (M 42 (Int32.toNatClampNeg x1)) / 16 * 16))) M) : JE E (d) n_M_kindAt 0 [some (Sum.inr 31), some (Sum.inl x1)] [] M Q :=
  JE_steps 1000 [] (by decide) h
theorem b_M_begins1_0 {E : Env0} {d : Nat} (x1 : Int32) {M : Mem} {Q : Int32 → Mem → Prop} (h :
    ((M 31 16) ≤ x1 →
      Z01 1 ∧ Q 1 M) ∧
    (¬ (M 31 16) ≤ x1 →
      vp_in x1 10 ∧
      ((M 42 (Int32.toNatClampNeg x1)) < (16 : Int32) →
        Z01 0 ∧ Q 0 M) ∧
      (¬ (M 42 (Int32.toNatClampNeg x1)) < (16 : Int32) →
        Z01 1 ∧ Q 1 M))) : JE E (d) n_M_begins1 0 [some (Sum.inr 31), some (Sum.inl x1)] [] M Q :=
  JE_steps 1000 [] (by decide) h
theorem b_M_isGood_0 {E : Env0} {d : Nat}  {M : Mem} {Q : Int32 → Mem → Prop} (h :
    ((M 31 16) = (M 31 4) →
      JE E d n_M_isGood 17 [some (Sum.inr 31), some (Sum.inl 0), some (Sum.inl 0), none] [] M Q) ∧
    (¬ (M 31 16) = (M 31 4) →
      Z01 0 ∧ Q 0 M)) : JE E (d) n_M_isGood 0 [some (Sum.inr 31), none, none, none] [] M Q :=
  JE_steps 1000 [17, 41, 79, 98] (by decide) h
theorem b_M_isGood_17 {E : Env0} {dd : Nat} (x1 : Int32) (x2 : Int32) (o3 : Option V) {M : Mem} {Q : Int32 → Mem → Prop} (h :
    ((M 31 16) ≤ x2 →
      Z01 1 ∧ Q 1 M) ∧
    (¬ (M 31 16) ≤ x2 →
      CE E dd n_M_begins1 [Sum.inr 31, Sum.inl x2] M (fun r1 M1 =>
        (r1 = 0 →
          JE E (dd + 1) n_M_isGood 41 [some (Sum.inr 31), some (Sum.inl (x1 + 1)), some (Sum.inl x2), o3] [] M1 Q) ∧
        (¬ r1 = 0 →
          JE E (dd + 1) n_M_isGood 41 [some (Sum.inr 31), some (Sum.inl 1), some (Sum.inl x2), o3] [] M1 Q)))) : JE E (dd + 1) n_M_isGood 17 [some (Sum.inr 31), some (Sum.inl x1), some (Sum.inl x2), o3] [] M Q :=
  JE_steps 1000 [17, 41, 79, 98] (by decide) h
theorem b_M_isGood_41 {E : Env0} {dd : Nat} (x1 : Int32) (x2 : Int32) (o3 : Option V) {M : Mem} {Q : Int32 → Mem → Prop} (h :
    ((M 31 11) < x1 →
      Z01 0 ∧ Q 0 M) ∧
    (¬ (M 31 11) < x1 →
      (x1 ≤ (1 : Int32) →
        JE E (dd + 1) n_M_isGood 79 [some (Sum.inr 31), some (Sum.inl x1), some (Sum.inl x2), o3] [] M Q) ∧
      (¬ x1 ≤ (1 : Int32) →
        CE E dd n_M_kindAt [Sum.inr 31, Sum.inl x2] M (fun r1 M1 =>
          vp_in r1 8 ∧
          CE E dd n_M_kindAt [Sum.inr 31, Sum.inl (x2 - 1)] M1 (fun r2 M2 =>
            vp_in r2 8 ∧
            (¬ (M1 34 (Int32.toNatClampNeg r1)) = (M2 34 (Int32.toNatClampNeg r2)) →
              Z01 0 ∧ Q 0 M2) ∧
            ((M1 34 (Int32.toNatClampNeg r1)) = (M2 34 (Int32.toNatClampNeg r2)) →
              JE E (dd + 1) n_M_isGood 79 [some (Sum.inr 31), some (Sum.inl x1), some (Sum.inl x2), o3] [] M2 Q)))))) : JE E (dd + 1) n_M_isGood 41 [some (Sum.inr 31), some (Sum.inl x1), some (Sum.inl x2), o3] [] M Q :=
  JE_steps 1000 [17, 41, 79, 98] (by decide) h
theorem b_M_isGood_79 {E : Env0} {dd : Nat} (x1 : Int32) (x2 : Int32) (o3 : Option V) {M : Mem} {Q : Int32 → Mem → Prop} (h :
    CE E dd n_M_kindAt [Sum.inr 31, Sum.inl x2] M (fun r1 M1 =>
      CE E dd n_M_slotOf [Sum.inr 31, Sum.inl r1] M1 (fun r2 M2 =>
        (¬ r2 = ((-1) : Int32) →
          JE E (dd + 1) n_M_isGood 98 [some (Sum.inr 31), some (Sum.inl x1), some (Sum.inl x2), some (Sum.inl (x2 + 1))] [] M2 Q) ∧
        (r2 = ((-1) : Int32) →
          Z01 0 ∧ Q 0 M2)))) : JE E (dd + 1) n_M_isGood 79 [some (Sum.inr 31), some (Sum.inl x1), some (Sum.inl x2), o3] [] M Q :=
  JE_steps 1000 [17, 41, 79, 98] (by decide) h
theorem b_M_isGood_98 {E : Env0} {dd : Nat} (x1 : Int32) (x2 : Int32) (x3 : Int32) {M : Mem} {Q : Int32 → Mem → Prop} (h :
    ((M 31 16) ≤ x3 →
      JE E (dd + 1) n_M_isGood 17 [some (Sum.inr 31), some (Sum.inl x1), some (Sum.inl (x2 + 1)), some (Sum.inl x3)] [] M Q) ∧
    (¬ (M 31 16) ≤ x3 →
      vp_in x3 10 ∧
      NZ 16 ∧
      vp_in x2 10 ∧
      NZ 16 ∧
      CE E dd n_M_isAhead [Sum.inr 31, Sum.inl ((M 42 (Int32.toNatClampNeg x3)) - (M 42 (Int32.toNatClampNeg x3)) / 16 * 16), Sum.inl ((M 42 (Int32.toNatClampNeg x2)) - (M 42 (Int32.toNatClampNeg x2)) / 16 * 16)] M (fun r1 M1 =>
        (r1 = 0 →
          JE E (dd + 1) n_M_isGood 98 [some (Sum.inr 31), some (Sum.inl x1), some (Sum.inl x2), some (Sum.inl (x3 + 1))] [] M1 Q) ∧
        (¬ r1 = 0 →
          Z01 0 ∧ Q 0 M1)))) : JE E (dd + 1) n_M_isGood 98 [some (Sum.inr 31), some (Sum.inl x1), some (Sum.inl x2), some (Sum.inl x3)] [] M Q :=
  JE_steps 1000 [17, 41, 79, 98] (by decide) h
theorem b_M_good_0 {E : Env0} {dd : Nat}  {M : Mem} {Q : Int32 → Mem → Prop} (h :
    CE E dd n_M_isGood [Sum.inr 31] M (fun r1 M1 =>
      (r1 = 0 →
        Q 0 M1) ∧
      (¬ r1 = 0 →
        Q 1 M1))) : JE E (dd + 1) n_M_good 0 [some (Sum.inr 31)] [] M Q :=
  JE_steps 1000 [] (by decide) h
theorem b_M_goes_0 {E : Env0} {dd : Nat} (x1 : Int32) (x2 : Int32) {M : Mem} {Q : Int32 → Mem → Prop} (h :
    CE E dd n_M_move [Sum.inl (M 31 21), Sum.inl (M 31 22), Sum.inl x1, Sum.inl x2] M (fun r1 M1 =>
      Q 0 (mset (mset (mset M1 31 24 ((M 31 24) + r1)) 31 21 x1) 31 22 x2))) : JE E (dd + 1) n_M_goes 0 [some (Sum.inr 31), some (Sum.inl x1), some (Sum.inl x2)] [] M Q :=
  JE_steps 1000 [] (by decide) h
theorem b_M_begins0_0 {E : Env0} {d : Nat}  {M : Mem} {Q : Int32 → Mem → Prop} (h :
    Q 0 (mset (mset (mset (mset M 31 21 0) 31 22 0) 31 23 0) 31 24 0)) : JE E (d) n_M_begins0 0 [some (Sum.inr 31)] [] M Q :=
  JE_steps 1000 [] (by decide) h
theorem b_M_planTicks_0 {E : Env0} {dd : Nat}  {M : Mem} {Q : Int32 → Mem → Prop} (h :
    CE E dd n_M_begins0 [Sum.inr 31] M (fun r1 M1 =>
      JE E (dd + 1) n_M_planTicks 6 [some (Sum.inr 31), some (Sum.inl 0), none, none, none, none, none] [] M1 Q)) : JE E (dd + 1) n_M_planTicks 0 [some (Sum.inr 31), none, none, none, none, none, none] [] M Q :=
  JE_steps 1000 [6, 18, 62, 81, 94, 171, 235] (by decide) h
theorem b_M_planTicks_6 {E : Env0} {d : Nat} (x1 : Int32) (o2 : Option V) (o3 : Option V) (o4 : Option V) (o5 : Option V) (o6 : Option V) {M : Mem} {Q : Int32 → Mem → Prop} (h :
    ((M 31 16) ≤ x1 →
      Q (M 31 24) M) ∧
    (¬ (M 31 16) ≤ x1 →
      JE E d n_M_planTicks 18 [some (Sum.inr 31), some (Sum.inl x1), some (Sum.inl (x1 + 1)), o3, o4, o5, o6] [] M Q)) : JE E (d) n_M_planTicks 6 [some (Sum.inr 31), some (Sum.inl x1), o2, o3, o4, o5, o6] [] M Q :=
  JE_steps 1000 [6, 18, 62, 81, 94, 171, 235] (by decide) h
theorem b_M_planTicks_18 {E : Env0} {dd : Nat} (x1 : Int32) (x2 : Int32) (o3 : Option V) (o4 : Option V) (o5 : Option V) (o6 : Option V) {M : Mem} {Q : Int32 → Mem → Prop} (h :
    CE E dd n_M_begins1 [Sum.inr 31, Sum.inl x2] M (fun r1 M1 =>
      (¬ r1 = 0 →
        CE E dd n_M_kindAt [Sum.inr 31, Sum.inl x1] M1 (fun r2 M2 =>
          vp_in r2 8 ∧
          ((M1 31 23) = (M2 34 (Int32.toNatClampNeg r2)) →
            JE E (dd + 1) n_M_planTicks 62 [some (Sum.inr 31), some (Sum.inl x1), some (Sum.inl x2), o3, o4, o5, o6] [] M2 Q) ∧
          (¬ (M1 31 23) = (M2 34 (Int32.toNatClampNeg r2)) →
            JE E (dd + 1) n_M_planTicks 62 [some (Sum.inr 31), some (Sum.inl x1), some (Sum.inl x2), o3, o4, o5, o6] [] (mset M2 31 24 ((M2 31 24) + (M2 31 15))) Q))) ∧
      (r1 = 0 →
        JE E (dd + 1) n_M_planTicks 18 [some (Sum.inr 31), some (Sum.inl x1), some (Sum.inl (x2 + 1)), o3, o4, o5, o6] [] M1 Q))) : JE E (dd + 1) n_M_planTicks 18 [some (Sum.inr 31), some (Sum.inl x1), some (Sum.inl x2), o3, o4, o5, o6] [] M Q :=
  JE_steps 1000 [6, 18, 62, 81, 94, 171, 235] (by decide) h
theorem b_M_planTicks_62 {E : Env0} {dd : Nat} (x1 : Int32) (x2 : Int32) (o3 : Option V) (o4 : Option V) (o5 : Option V) (o6 : Option V) {M : Mem} {Q : Int32 → Mem → Prop} (h :
    CE E dd n_M_kindAt [Sum.inr 31, Sum.inl x1] M (fun r1 M1 =>
      vp_in r1 8 ∧
      JE E (dd + 1) n_M_planTicks 81 [some (Sum.inr 31), some (Sum.inl x1), some (Sum.inl x2), some (Sum.inl 0), some (Sum.inl 0), o5, o6] [] (mset M1 31 23 (M1 34 (Int32.toNatClampNeg r1))) Q)) : JE E (dd + 1) n_M_planTicks 62 [some (Sum.inr 31), some (Sum.inl x1), some (Sum.inl x2), o3, o4, o5, o6] [] M Q :=
  JE_steps 1000 [6, 18, 62, 81, 94, 171, 235] (by decide) h
theorem b_M_planTicks_81 {E : Env0} {d : Nat} (x1 : Int32) (x2 : Int32) (x3 : Int32) (x4 : Int32) (o5 : Option V) (o6 : Option V) {M : Mem} {Q : Int32 → Mem → Prop} (h :
    ((8 : Int32) ≤ x4 →
      JE E d n_M_planTicks 171 [some (Sum.inr 31), some (Sum.inl x1), some (Sum.inl x2), some (Sum.inl x3), some (Sum.inl x1), o5, o6] [] M Q) ∧
    (¬ (8 : Int32) ≤ x4 →
      JE E d n_M_planTicks 94 [some (Sum.inr 31), some (Sum.inl x1), some (Sum.inl x2), some (Sum.inl x3), some (Sum.inl x4), some (Sum.inl 0), some (Sum.inl x1)] [] M Q)) : JE E (d) n_M_planTicks 81 [some (Sum.inr 31), some (Sum.inl x1), some (Sum.inl x2), some (Sum.inl x3), some (Sum.inl x4), o5, o6] [] M Q :=
  JE_steps 1000 [6, 18, 62, 81, 94, 171, 235] (by decide) h
theorem b_M_planTicks_94 {E : Env0} {dd : Nat} (x1 : Int32) (x2 : Int32) (x3 : Int32) (x4 : Int32) (x5 : Int32) (x6 : Int32) {M : Mem} {Q : Int32 → Mem → Prop} (h :
    (x2 ≤ x6 →
      (x5 ≤ 0 →
        JE E (dd + 1) n_M_planTicks 81 [some (Sum.inr 31), some (Sum.inl x1), some (Sum.inl x2), some (Sum.inl x3), some (Sum.inl (x4 + 1)), some (Sum.inl x5), some (Sum.inl x6)] [] (mset M 31 24 ((M 31 24) + (x5 * (M 31 12)))) Q) ∧
      (¬ x5 ≤ 0 →
        CE E dd n_M_goes [Sum.inr 31, Sum.inl (20 * x4), Sum.inl 0] M (fun r1 M1 =>
          JE E (dd + 1) n_M_planTicks 81 [some (Sum.inr 31), some (Sum.inl x1), some (Sum.inl x2), some (Sum.inl x3), some (Sum.inl (x4 + 1)), some (Sum.inl x5), some (Sum.inl x6)] [] (mset M1 31 24 ((M1 31 24) + (x5 * (M1 31 12)))) Q))) ∧
    (¬ x2 ≤ x6 →
      CE E dd n_M_kindAt [Sum.inr 31, Sum.inl x6] M (fun r2 M2 =>
        CE E dd n_M_slotOf [Sum.inr 31, Sum.inl r2] M2 (fun r3 M3 =>
          (¬ r3 = x4 →
            JE E (dd + 1) n_M_planTicks 94 [some (Sum.inr 31), some (Sum.inl x1), some (Sum.inl x2), some (Sum.inl x3), some (Sum.inl x4), some (Sum.inl (x5 + 0)), some (Sum.inl (x6 + 1))] [] M3 Q) ∧
          (r3 = x4 →
            JE E (dd + 1) n_M_planTicks 94 [some (Sum.inr 31), some (Sum.inl x1), some (Sum.inl x2), some (Sum.inl x3), some (Sum.inl x4), some (Sum.inl (x5 + 1)), some (Sum.inl (x6 + 1))] [] M3 Q))))) : JE E (dd + 1) n_M_planTicks 94 [some (Sum.inr 31), some (Sum.inl x1), some (Sum.inl x2), some (Sum.inl x3), some (Sum.inl x4), some (Sum.inl x5), some (Sum.inl x6)] [] M Q :=
  JE_steps 1000 [6, 18, 62, 81, 94, 171, 235] (by decide) h
theorem b_M_planTicks_171 {E : Env0} {dd : Nat} (x1 : Int32) (x2 : Int32) (x3 : Int32) (x4 : Int32) (o5 : Option V) (o6 : Option V) {M : Mem} {Q : Int32 → Mem → Prop} (h :
    (x2 ≤ x4 →
      (x3 ≤ 0 →
        JE E (dd + 1) n_M_planTicks 235 [some (Sum.inr 31), some (Sum.inl x1), some (Sum.inl x2), some (Sum.inl x3), some (Sum.inl x1), o5, o6] [] (mset M 31 24 ((M 31 24) + (x3 * (M 31 14)))) Q) ∧
      (¬ x3 ≤ 0 →
        CE E dd n_M_goes [Sum.inr 31, Sum.inl 199, Sum.inl 0] M (fun r1 M1 =>
          JE E (dd + 1) n_M_planTicks 235 [some (Sum.inr 31), some (Sum.inl x1), some (Sum.inl x2), some (Sum.inl x3), some (Sum.inl x1), o5, o6] [] (mset M1 31 24 ((M1 31 24) + (x3 * (M1 31 14)))) Q))) ∧
    (¬ x2 ≤ x4 →
      CE E dd n_M_kindAt [Sum.inr 31, Sum.inl x4] M (fun r2 M2 =>
        vp_in r2 8 ∧
        ((M2 35 (Int32.toNatClampNeg r2)) = 0 →
          JE E (dd + 1) n_M_planTicks 171 [some (Sum.inr 31), some (Sum.inl x1), some (Sum.inl x2), some (Sum.inl (x3 + 0)), some (Sum.inl (x4 + 1)), o5, o6] [] M2 Q) ∧
        (¬ (M2 35 (Int32.toNatClampNeg r2)) = 0 →
          JE E (dd + 1) n_M_planTicks 171 [some (Sum.inr 31), some (Sum.inl x1), some (Sum.inl x2), some (Sum.inl (x3 + 1)), some (Sum.inl (x4 + 1)), o5, o6] [] M2 Q)))) : JE E (dd + 1) n_M_planTicks 171 [some (Sum.inr 31), some (Sum.inl x1), some (Sum.inl x2), some (Sum.inl x3), some (Sum.inl x4), o5, o6] [] M Q :=
  JE_steps 1000 [6, 18, 62, 81, 94, 171, 235] (by decide) h
theorem b_M_planTicks_235 {E : Env0} {dd : Nat} (o1 : Option V) (x2 : Int32) (o3 : Option V) (x4 : Int32) (o5 : Option V) (o6 : Option V) {M : Mem} {Q : Int32 → Mem → Prop} (h :
    (x2 ≤ x4 →
      JE E (dd + 1) n_M_planTicks 6 [some (Sum.inr 31), some (Sum.inl x2), some (Sum.inl x2), o3, some (Sum.inl x4), o5, o6] [] M Q) ∧
    (¬ x2 ≤ x4 →
      vp_in x4 10 ∧
      NZ 16 ∧
      vp_in ((M 42 (Int32.toNatClampNeg x4)) - (M 42 (Int32.toNatClampNeg x4)) / 16 * 16) 10 ∧
      vp_in x4 10 ∧
      NZ 16 ∧
      vp_in ((M 42 (Int32.toNatClampNeg x4)) - (M 42 (Int32.toNatClampNeg x4)) / 16 * 16) 10 ∧
      CE E dd n_M_goes [Sum.inr 31, Sum.inl (M 36 (Int32.toNatClampNeg ((M 42 (Int32.toNatClampNeg x4)) - (M 42 (Int32.toNatClampNeg x4)) / 16 * 16))), Sum.inl (M 37 (Int32.toNatClampNeg ((M 42 (Int32.toNatClampNeg x4)) - (M 42 (Int32.toNatClampNeg x4)) / 16 * 16)))] M (fun r1 M1 =>
        JE E (dd + 1) n_M_planTicks 235 [some (Sum.inr 31), o1, some (Sum.inl x2), o3, some (Sum.inl (x4 + 1)), o5, o6] [] (mset M1 31 24 ((M1 31 24) + (M1 31 13))) Q))) : JE E (dd + 1) n_M_planTicks 235 [some (Sum.inr 31), o1, some (Sum.inl x2), o3, some (Sum.inl x4), o5, o6] [] M Q :=
  JE_steps 1000 [6, 18, 62, 81, 94, 171, 235] (by decide) h
theorem b_M_ticks_0 {E : Env0} {dd : Nat}  {M : Mem} {Q : Int32 → Mem → Prop} (h :
    CE E dd n_M_isGood [Sum.inr 31] M (fun r1 M1 =>
      (¬ r1 = 0 →
        CE E dd n_M_planTicks [Sum.inr 31] M1 (fun r2 M2 =>
          Q r2 (mset (mset (mset (mset M2 31 21 (M1 31 21)) 31 22 (M1 31 22)) 31 23 (M1 31 23)) 31 24 (M1 31 24)))) ∧
      (r1 = 0 →
        Q (-1) M1))) : JE E (dd + 1) n_M_ticks 0 [some (Sum.inr 31), none, none, none, none, none] [] M Q :=
  JE_steps 1000 [] (by decide) h
theorem b_M_nextRow_0 {E : Env0} {d : Nat} (x1 : Int32) {M : Mem} {Q : Int32 → Mem → Prop} (h :
    JE E d n_M_nextRow 4 [some (Sum.inr 31), some (Sum.inl x1), some (Sum.inl (x1 - 2)), none, none, none, none] [] M Q) : JE E (d) n_M_nextRow 0 [some (Sum.inr 31), some (Sum.inl x1), none, none, none, none, none] [] M Q :=
  JE_steps 1000 [4, 41, 100] (by decide) h
theorem b_M_nextRow_4 {E : Env0} {d : Nat} (x1 : Int32) (x2 : Int32) (o3 : Option V) (o4 : Option V) (o5 : Option V) (o6 : Option V) {M : Mem} {Q : Int32 → Mem → Prop} (h :
    (x2 < 0 →
      (0 ≤ x2 →
        JE E d n_M_nextRow 41 [some (Sum.inr 31), some (Sum.inl x1), some (Sum.inl x2), some (Sum.inl (x1 - 1)), o4, o5, o6] [] M Q) ∧
      (¬ 0 ≤ x2 →
        Z01 0 ∧ Q 0 M)) ∧
    (¬ x2 < 0 →
      vp_in x2 10 ∧
      vp_in (x2 + 1) 10 ∧
      ((M 46 (Int32.toNatClampNeg x2)) ≤ (M 46 (Int32.toNatClampNeg (x2 + 1))) →
        (0 ≤ x2 →
          JE E d n_M_nextRow 41 [some (Sum.inr 31), some (Sum.inl x1), some (Sum.inl x2), some (Sum.inl (x1 - 1)), o4, o5, o6] [] M Q) ∧
        (¬ 0 ≤ x2 →
          Z01 0 ∧ Q 0 M)) ∧
      (¬ (M 46 (Int32.toNatClampNeg x2)) ≤ (M 46 (Int32.toNatClampNeg (x2 + 1))) →
        JE E d n_M_nextRow 4 [some (Sum.inr 31), some (Sum.inl x1), some (Sum.inl (x2 + (-1))), o3, o4, o5, o6] [] M Q))) : JE E (d) n_M_nextRow 4 [some (Sum.inr 31), some (Sum.inl x1), some (Sum.inl x2), o3, o4, o5, o6] [] M Q :=
  JE_steps 1000 [4, 41, 100] (by decide) h
theorem b_M_nextRow_41 {E : Env0} {d : Nat} (x1 : Int32) (x2 : Int32) (x3 : Int32) (o4 : Option V) (o5 : Option V) (o6 : Option V) {M : Mem} {Q : Int32 → Mem → Prop} (h :
    vp_in x3 10 ∧
    vp_in x2 10 ∧
    ((M 46 (Int32.toNatClampNeg x2)) ≤ (M 46 (Int32.toNatClampNeg x3)) →
      vp_in x2 10 ∧
      vp_in x3 10 ∧
      vp_in x2 10 ∧ 
      vp_in x3 10 ∧ 
      JE E d n_M_nextRow 100 [some (Sum.inr 31), some (Sum.inl x1), some (Sum.inl x2), some (Sum.inl x3), some (Sum.inl (M 46 (Int32.toNatClampNeg x2))), some (Sum.inl (x2 + 1)), some (Sum.inl (x1 - 1))] [] (mset (mset M 46 (Int32.toNatClampNeg x2) (M 46 (Int32.toNatClampNeg x3))) 46 (Int32.toNatClampNeg x3) (M 46 (Int32.toNatClampNeg x2))) Q) ∧
    (¬ (M 46 (Int32.toNatClampNeg x2)) ≤ (M 46 (Int32.toNatClampNeg x3)) →
      JE E d n_M_nextRow 41 [some (Sum.inr 31), some (Sum.inl x1), some (Sum.inl x2), some (Sum.inl (x3 + (-1))), o4, o5, o6] [] M Q)) : JE E (d) n_M_nextRow 41 [some (Sum.inr 31), some (Sum.inl x1), some (Sum.inl x2), some (Sum.inl x3), o4, o5, o6] [] M Q :=
  JE_steps 1000 [4, 41, 100] (by decide) h
theorem b_M_nextRow_100 {E : Env0} {d : Nat} (o1 : Option V) (o2 : Option V) (o3 : Option V) (o4 : Option V) (x5 : Int32) (x6 : Int32) {M : Mem} {Q : Int32 → Mem → Prop} (h :
    (x6 ≤ x5 →
      Z01 1 ∧ Q 1 M) ∧
    (¬ x6 ≤ x5 →
      vp_in x5 10 ∧
      vp_in x6 10 ∧
      vp_in x5 10 ∧ 
      vp_in x6 10 ∧ 
      JE E d n_M_nextRow 100 [some (Sum.inr 31), o1, o2, o3, some (Sum.inl (M 46 (Int32.toNatClampNeg x5))), some (Sum.inl (x5 + 1)), some (Sum.inl (x6 + (-1)))] [] (mset (mset M 46 (Int32.toNatClampNeg x5) (M 46 (Int32.toNatClampNeg x6))) 46 (Int32.toNatClampNeg x6) (M 46 (Int32.toNatClampNeg x5))) Q)) : JE E (d) n_M_nextRow 100 [some (Sum.inr 31), o1, o2, o3, o4, some (Sum.inl x5), some (Sum.inl x6)] [] M Q :=
  JE_steps 1000 [4, 41, 100] (by decide) h
theorem b_M_isInOrder_0 {E : Env0} {d : Nat}  {M : Mem} {Q : Int32 → Mem → Prop} (h :
    JE E d n_M_isInOrder 2 [some (Sum.inr 31), some (Sum.inl 0), none] [] M Q) : JE E (d) n_M_isInOrder 0 [some (Sum.inr 31), none, none] [] M Q :=
  JE_steps 1000 [2, 14] (by decide) h
theorem b_M_isInOrder_2 {E : Env0} {d : Nat} (x1 : Int32) (o2 : Option V) {M : Mem} {Q : Int32 → Mem → Prop} (h :
    ((M 31 4) ≤ x1 →
      Z01 1 ∧ Q 1 M) ∧
    (¬ (M 31 4) ≤ x1 →
      JE E d n_M_isInOrder 14 [some (Sum.inr 31), some (Sum.inl x1), some (Sum.inl (x1 + 1))] [] M Q)) : JE E (d) n_M_isInOrder 2 [some (Sum.inr 31), some (Sum.inl x1), o2] [] M Q :=
  JE_steps 1000 [2, 14] (by decide) h
theorem b_M_isInOrder_14 {E : Env0} {dd : Nat} (x1 : Int32) (x2 : Int32) {M : Mem} {Q : Int32 → Mem → Prop} (h :
    ((M 31 4) ≤ x2 →
      JE E (dd + 1) n_M_isInOrder 2 [some (Sum.inr 31), some (Sum.inl (x1 + 1)), some (Sum.inl x2)] [] M Q) ∧
    (¬ (M 31 4) ≤ x2 →
      vp_in x2 10 ∧
      vp_in x1 10 ∧
      CE E dd n_M_isAhead [Sum.inr 31, Sum.inl (M 46 (Int32.toNatClampNeg x2)), Sum.inl (M 46 (Int32.toNatClampNeg x1))] M (fun r1 M1 =>
        (r1 = 0 →
          JE E (dd + 1) n_M_isInOrder 14 [some (Sum.inr 31), some (Sum.inl x1), some (Sum.inl (x2 + 1))] [] M1 Q) ∧
        (¬ r1 = 0 →
          Z01 0 ∧ Q 0 M1)))) : JE E (dd + 1) n_M_isInOrder 14 [some (Sum.inr 31), some (Sum.inl x1), some (Sum.inl x2)] [] M Q :=
  JE_steps 1000 [2, 14] (by decide) h
theorem b_M_isLess_0 {E : Env0} {d : Nat}  {M : Mem} {Q : Int32 → Mem → Prop} (h :
    JE E d n_M_isLess 2 [some (Sum.inr 31), some (Sum.inl 0)] [] M Q) : JE E (d) n_M_isLess 0 [some (Sum.inr 31), none] [] M Q :=
  JE_steps 1000 [2] (by decide) h
theorem b_M_isLess_2 {E : Env0} {d : Nat} (x1 : Int32) {M : Mem} {Q : Int32 → Mem → Prop} (h :
    ((M 31 4) ≤ x1 →
      Z01 0 ∧ Q 0 M) ∧
    (¬ (M 31 4) ≤ x1 →
      vp_in x1 10 ∧
      vp_in x1 10 ∧
      ((M 42 (Int32.toNatClampNeg x1)) = (M 47 (Int32.toNatClampNeg x1)) →
        JE E d n_M_isLess 2 [some (Sum.inr 31), some (Sum.inl (x1 + 1))] [] M Q) ∧
      (¬ (M 42 (Int32.toNatClampNeg x1)) = (M 47 (Int32.toNatClampNeg x1)) →
        vp_in x1 10 ∧
        vp_in x1 10 ∧
        ((M 47 (Int32.toNatClampNeg x1)) ≤ (M 42 (Int32.toNatClampNeg x1)) →
          Z01 0 ∧ Q 0 M) ∧
        (¬ (M 47 (Int32.toNatClampNeg x1)) ≤ (M 42 (Int32.toNatClampNeg x1)) →
          Z01 1 ∧ Q 1 M)))) : JE E (d) n_M_isLess 2 [some (Sum.inr 31), some (Sum.inl x1)] [] M Q :=
  JE_steps 1000 [2] (by decide) h
theorem b_M_best_0 {E : Env0} {dd : Nat}  {M : Mem} {Q : Int32 → Mem → Prop} (h :
    ((M 31 4) = 0 →
      Q (-1) M) ∧
    (¬ (M 31 4) = 0 →
      ((M 31 4) ≤ (7 : Int32) →
        (¬ (M 31 28) = 0 →
          (¬ (M 31 29) = ((-1) : Int32) →
            JE E (dd + 1) n_M_best 49 [some (Sum.inr 31), some (Sum.inl 0)] [] (mset M 31 16 (M 31 4)) Q) ∧
          ((M 31 29) = ((-1) : Int32) →
            Q (-1) M)) ∧
        ((M 31 28) = 0 →
          CE E dd n_M_finds [Sum.inr 31] M (fun r1 M1 =>
            (¬ (M1 31 29) = ((-1) : Int32) →
              JE E (dd + 1) n_M_best 49 [some (Sum.inr 31), some (Sum.inl 0)] [] (mset M1 31 16 (M1 31 4)) Q) ∧
            ((M1 31 29) = ((-1) : Int32) →
              Q (-1) M1)))) ∧
      (¬ (M 31 4) ≤ (7 : Int32) →
        Q (-1) M))) : JE E (dd + 1) n_M_best 0 [some (Sum.inr 31), none] [] M Q :=
  JE_steps 1000 [49] (by decide) h
theorem b_M_best_49 {E : Env0} {d : Nat} (x1 : Int32) {M : Mem} {Q : Int32 → Mem → Prop} (h :
    ((M 31 4) ≤ x1 →
      Z01 0 ∧
      Q (M 31 29) (mset M 31 30 0)) ∧
    (¬ (M 31 4) ≤ x1 →
      vp_in x1 10 ∧
      vp_in x1 10 ∧ 
      JE E d n_M_best 49 [some (Sum.inr 31), some (Sum.inl (x1 + 1))] [] (mset M 42 (Int32.toNatClampNeg x1) (M 47 (Int32.toNatClampNeg x1))) Q)) : JE E (d) n_M_best 49 [some (Sum.inr 31), some (Sum.inl x1)] [] M Q :=
  JE_steps 1000 [49] (by decide) h
theorem b_M_finds_0 {E : Env0} {d : Nat}  {M : Mem} {Q : Int32 → Mem → Prop} (h :
    JE E d n_M_finds 7 [some (Sum.inr 31), some (Sum.inl (M 31 16)), some (Sum.inl 0), none, none, none, none, none, none, none] [] M Q) : JE E (d) n_M_finds 0 [some (Sum.inr 31), none, none, none, none, none, none, none, none, none] [] M Q :=
  JE_steps 1000 [7, 33, 92, 100, 123, 238, 316] (by decide) h
theorem b_M_finds_7 {E : Env0} {d : Nat} (x1 : Int32) (x2 : Int32) (o3 : Option V) (o4 : Option V) (o5 : Option V) (o6 : Option V) (o7 : Option V) (o8 : Option V) (o9 : Option V) {M : Mem} {Q : Int32 → Mem → Prop} (h :
    ((10 : Int32) ≤ x2 →
      JE E d n_M_finds 33 [some (Sum.inr 31), some (Sum.inl x1), some (Sum.inl 0), o3, o4, o5, o6, o7, o8, o9] [] M Q) ∧
    (¬ (10 : Int32) ≤ x2 →
      vp_in x2 10 ∧
      vp_in x2 10 ∧ 
      JE E d n_M_finds 7 [some (Sum.inr 31), some (Sum.inl x1), some (Sum.inl (x2 + 1)), o3, o4, o5, o6, o7, o8, o9] [] (mset M 45 (Int32.toNatClampNeg x2) (M 42 (Int32.toNatClampNeg x2))) Q)) : JE E (d) n_M_finds 7 [some (Sum.inr 31), some (Sum.inl x1), some (Sum.inl x2), o3, o4, o5, o6, o7, o8, o9] [] M Q :=
  JE_steps 1000 [7, 33, 92, 100, 123, 238, 316] (by decide) h
theorem b_M_finds_33 {E : Env0} {d : Nat} (x1 : Int32) (x2 : Int32) (o3 : Option V) (o4 : Option V) (o5 : Option V) (o6 : Option V) (o7 : Option V) (o8 : Option V) (o9 : Option V) {M : Mem} {Q : Int32 → Mem → Prop} (h :
    ((M 31 4) ≤ x2 →
      JE E d n_M_finds 92 [some (Sum.inr 31), some (Sum.inl x1), some (Sum.inl (M 31 21)), some (Sum.inl (M 31 22)), some (Sum.inl (M 31 23)), some (Sum.inl (M 31 24)), some (Sum.inl 1), o7, o8, o9] [] (mset (mset M 31 16 (M 31 4)) 31 29 (-1)) Q) ∧
    (¬ (M 31 4) ≤ x2 →
      vp_in x2 10 ∧ 
      JE E d n_M_finds 33 [some (Sum.inr 31), some (Sum.inl x1), some (Sum.inl (x2 + 1)), o3, o4, o5, o6, o7, o8, o9] [] (mset M 46 (Int32.toNatClampNeg x2) x2) Q)) : JE E (d) n_M_finds 33 [some (Sum.inr 31), some (Sum.inl x1), some (Sum.inl x2), o3, o4, o5, o6, o7, o8, o9] [] M Q :=
  JE_steps 1000 [7, 33, 92, 100, 123, 238, 316] (by decide) h
theorem b_M_finds_92 {E : Env0} {d : Nat} (x1 : Int32) (x2 : Int32) (x3 : Int32) (x4 : Int32) (x5 : Int32) (x6 : Int32) (o7 : Option V) (o8 : Option V) (o9 : Option V) {M : Mem} {Q : Int32 → Mem → Prop} (h :
    (x6 = 0 →
      JE E d n_M_finds 316 [some (Sum.inr 31), some (Sum.inl x1), some (Sum.inl x2), some (Sum.inl x3), some (Sum.inl x4), some (Sum.inl x5), some (Sum.inl x6), some (Sum.inl 0), o8, o9] [] (mset (mset (mset (mset (mset M 31 21 x2) 31 22 x3) 31 23 x4) 31 24 x5) 31 16 x1) Q) ∧
    (¬ x6 = 0 →
      JE E d n_M_finds 100 [some (Sum.inr 31), some (Sum.inl x1), some (Sum.inl x2), some (Sum.inl x3), some (Sum.inl x4), some (Sum.inl x5), some (Sum.inl x6), some (Sum.inl 0), o8, o9] [] M Q)) : JE E (d) n_M_finds 92 [some (Sum.inr 31), some (Sum.inl x1), some (Sum.inl x2), some (Sum.inl x3), some (Sum.inl x4), some (Sum.inl x5), some (Sum.inl x6), o7, o8, o9] [] M Q :=
  JE_steps 1000 [7, 33, 92, 100, 123, 238, 316] (by decide) h
theorem b_M_finds_100 {E : Env0} {dd : Nat} (x1 : Int32) (x2 : Int32) (x3 : Int32) (x4 : Int32) (x5 : Int32) (o6 : Option V) (x7 : Int32) (o8 : Option V) (o9 : Option V) {M : Mem} {Q : Int32 → Mem → Prop} (h :
    CE E dd n_M_isInOrder [Sum.inr 31] M (fun r1 M1 =>
      (r1 = 0 →
        CE E dd n_M_nextRow [Sum.inr 31, Sum.inl (M1 31 4)] M1 (fun r2 M2 =>
          JE E (dd + 1) n_M_finds 92 [some (Sum.inr 31), some (Sum.inl x1), some (Sum.inl x2), some (Sum.inl x3), some (Sum.inl x4), some (Sum.inl x5), some (Sum.inl r2), some (Sum.inl x7), o8, o9] [] M2 Q)) ∧
      (¬ r1 = 0 →
        ((1 <<< (((M1 31 4) - 1) &&& 31)) ≤ x7 →
          CE E dd n_M_nextRow [Sum.inr 31, Sum.inl (M1 31 4)] M1 (fun r3 M3 =>
            JE E (dd + 1) n_M_finds 92 [some (Sum.inr 31), some (Sum.inl x1), some (Sum.inl x2), some (Sum.inl x3), some (Sum.inl x4), some (Sum.inl x5), some (Sum.inl r3), some (Sum.inl x7), o8, o9] [] M3 Q)) ∧
        (¬ (1 <<< (((M1 31 4) - 1) &&& 31)) ≤ x7 →
          JE E (dd + 1) n_M_finds 123 [some (Sum.inr 31), some (Sum.inl x1), some (Sum.inl x2), some (Sum.inl x3), some (Sum.inl x4), some (Sum.inl x5), o6, some (Sum.inl x7), some (Sum.inl 0), o9] [] M1 Q)))) : JE E (dd + 1) n_M_finds 100 [some (Sum.inr 31), some (Sum.inl x1), some (Sum.inl x2), some (Sum.inl x3), some (Sum.inl x4), some (Sum.inl x5), o6, some (Sum.inl x7), o8, o9] [] M Q :=
  JE_steps 1000 [7, 33, 92, 100, 123, 238, 316] (by decide) h
theorem b_M_finds_123 {E : Env0} {dd : Nat} (x1 : Int32) (x2 : Int32) (x3 : Int32) (x4 : Int32) (x5 : Int32) (o6 : Option V) (x7 : Int32) (x8 : Int32) (o9 : Option V) {M : Mem} {Q : Int32 → Mem → Prop} (h :
    ((M 31 4) ≤ x8 →
      CE E dd n_M_isGood [Sum.inr 31] M (fun r1 M1 =>
        (¬ r1 = 0 →
          CE E dd n_M_planTicks [Sum.inr 31] M1 (fun r2 M2 =>
            ((M2 31 29) = ((-1) : Int32) →
              JE E (dd + 1) n_M_finds 238 [some (Sum.inr 31), some (Sum.inl x1), some (Sum.inl x2), some (Sum.inl x3), some (Sum.inl x4), some (Sum.inl x5), o6, some (Sum.inl x7), some (Sum.inl r2), some (Sum.inl 0)] [] (mset M2 31 29 r2) Q) ∧
            (¬ (M2 31 29) = ((-1) : Int32) →
              ((M2 31 29) < r2 →
                JE E (dd + 1) n_M_finds 100 [some (Sum.inr 31), some (Sum.inl x1), some (Sum.inl x2), some (Sum.inl x3), some (Sum.inl x4), some (Sum.inl x5), o6, some (Sum.inl (x7 + 1)), some (Sum.inl r2), o9] [] M2 Q) ∧
              (¬ (M2 31 29) < r2 →
                (¬ r2 = (M2 31 29) →
                  JE E (dd + 1) n_M_finds 238 [some (Sum.inr 31), some (Sum.inl x1), some (Sum.inl x2), some (Sum.inl x3), some (Sum.inl x4), some (Sum.inl x5), o6, some (Sum.inl x7), some (Sum.inl r2), some (Sum.inl 0)] [] (mset M2 31 29 r2) Q) ∧
                (r2 = (M2 31 29) →
                  CE E dd n_M_isLess [Sum.inr 31] M2 (fun r3 M3 =>
                    (¬ r3 = 0 →
                      JE E (dd + 1) n_M_finds 238 [some (Sum.inr 31), some (Sum.inl x1), some (Sum.inl x2), some (Sum.inl x3), some (Sum.inl x4), some (Sum.inl x5), o6, some (Sum.inl x7), some (Sum.inl r2), some (Sum.inl 0)] [] (mset M3 31 29 r2) Q) ∧
                    (r3 = 0 →
                      JE E (dd + 1) n_M_finds 100 [some (Sum.inr 31), some (Sum.inl x1), some (Sum.inl x2), some (Sum.inl x3), some (Sum.inl x4), some (Sum.inl x5), o6, some (Sum.inl (x7 + 1)), some (Sum.inl r2), o9] [] M3 Q))))))) ∧
        (r1 = 0 →
          JE E (dd + 1) n_M_finds 100 [some (Sum.inr 31), some (Sum.inl x1), some (Sum.inl x2), some (Sum.inl x3), some (Sum.inl x4), some (Sum.inl x5), o6, some (Sum.inl (x7 + 1)), some (Sum.inl x8), o9] [] M1 Q))) ∧
    (¬ (M 31 4) ≤ x8 →
      vp_in x8 10 ∧
      (x8 = 0 →
        vp_in x8 10 ∧ 
        JE E (dd + 1) n_M_finds 123 [some (Sum.inr 31), some (Sum.inl x1), some (Sum.inl x2), some (Sum.inl x3), some (Sum.inl x4), some (Sum.inl x5), o6, some (Sum.inl x7), some (Sum.inl (x8 + 1)), o9] [] (mset M 42 (Int32.toNatClampNeg x8) ((M 46 (Int32.toNatClampNeg x8)) + 16)) Q) ∧
      (¬ x8 = 0 →
        (¬ ((x7 >>> ((x8 - 1) &&& 31)) &&& 1) = (1 : Int32) →
          vp_in x8 10 ∧ 
          JE E (dd + 1) n_M_finds 123 [some (Sum.inr 31), some (Sum.inl x1), some (Sum.inl x2), some (Sum.inl x3), some (Sum.inl x4), some (Sum.inl x5), o6, some (Sum.inl x7), some (Sum.inl (x8 + 1)), o9] [] (mset M 42 (Int32.toNatClampNeg x8) ((M 46 (Int32.toNatClampNeg x8)) + 0)) Q) ∧
        (((x7 >>> ((x8 - 1) &&& 31)) &&& 1) = (1 : Int32) →
          vp_in x8 10 ∧ 
          JE E (dd + 1) n_M_finds 123 [some (Sum.inr 31), some (Sum.inl x1), some (Sum.inl x2), some (Sum.inl x3), some (Sum.inl x4), some (Sum.inl x5), o6, some (Sum.inl x7), some (Sum.inl (x8 + 1)), o9] [] (mset M 42 (Int32.toNatClampNeg x8) ((M 46 (Int32.toNatClampNeg x8)) + 16)) Q)))) : JE E (dd + 1) n_M_finds 123 [some (Sum.inr 31), some (Sum.inl x1), some (Sum.inl x2), some (Sum.inl x3), some (Sum.inl x4), some (Sum.inl x5), o6, some (Sum.inl x7), some (Sum.inl x8), o9] [] M Q :=
  JE_steps 1000 [7, 33, 92, 100, 123, 238, 316] (by decide) h
theorem b_M_finds_238 {E : Env0} {d : Nat} (x1 : Int32) (x2 : Int32) (x3 : Int32) (x4 : Int32) (x5 : Int32) (o6 : Option V) (x7 : Int32) (o8 : Option V) (x9 : Int32) {M : Mem} {Q : Int32 → Mem → Prop} (h :
    ((M 31 4) ≤ x9 →
      JE E d n_M_finds 100 [some (Sum.inr 31), some (Sum.inl x1), some (Sum.inl x2), some (Sum.inl x3), some (Sum.inl x4), some (Sum.inl x5), o6, some (Sum.inl (x7 + 1)), o8, some (Sum.inl x9)] [] M Q) ∧
    (¬ (M 31 4) ≤ x9 →
      vp_in x9 10 ∧
      vp_in x9 10 ∧ 
      JE E d n_M_finds 238 [some (Sum.inr 31), some (Sum.inl x1), some (Sum.inl x2), some (Sum.inl x3), some (Sum.inl x4), some (Sum.inl x5), o6, some (Sum.inl x7), o8, some (Sum.inl (x9 + 1))] [] (mset M 47 (Int32.toNatClampNeg x9) (M 42 (Int32.toNatClampNeg x9))) Q)) : JE E (d) n_M_finds 238 [some (Sum.inr 31), some (Sum.inl x1), some (Sum.inl x2), some (Sum.inl x3), some (Sum.inl x4), some (Sum.inl x5), o6, some (Sum.inl x7), o8, some (Sum.inl x9)] [] M Q :=
  JE_steps 1000 [7, 33, 92, 100, 123, 238, 316] (by decide) h
theorem b_M_finds_316 {E : Env0} {d : Nat} (o1 : Option V) (o2 : Option V) (o3 : Option V) (o4 : Option V) (o5 : Option V) (o6 : Option V) (x7 : Int32) (o8 : Option V) (o9 : Option V) {M : Mem} {Q : Int32 → Mem → Prop} (h :
    ((10 : Int32) ≤ x7 →
      Z01 1 ∧
      Q 0 (mset M 31 28 1)) ∧
    (¬ (10 : Int32) ≤ x7 →
      vp_in x7 10 ∧
      vp_in x7 10 ∧ 
      JE E d n_M_finds 316 [some (Sum.inr 31), o1, o2, o3, o4, o5, o6, some (Sum.inl (x7 + 1)), o8, o9] [] (mset M 42 (Int32.toNatClampNeg x7) (M 45 (Int32.toNatClampNeg x7))) Q)) : JE E (d) n_M_finds 316 [some (Sum.inr 31), o1, o2, o3, o4, o5, o6, some (Sum.inl x7), o8, o9] [] M Q :=
  JE_steps 1000 [7, 33, 92, 100, 123, 238, 316] (by decide) h
theorem b_M_plan_0 {E : Env0} {dd : Nat} (x1 : Int32) {M : Mem} {Q : Int32 → Mem → Prop} (h :
    CE E dd n_M_lies [Sum.inl x1, Sum.inl 0, Sum.inl ((M 31 16) - 1)] M (fun r1 M1 =>
      (r1 = 0 →
        Q (-1) M1) ∧
      (¬ r1 = 0 →
        vp_in x1 10 ∧
        Q (M1 42 (Int32.toNatClampNeg x1)) M1))) : JE E (dd + 1) n_M_plan 0 [some (Sum.inr 31), some (Sum.inl x1)] [] M Q :=
  JE_steps 1000 [] (by decide) h
theorem b_M_exchanges_0 {E : Env0} {d : Nat} (x1 : Int32) (x2 : Int32) {M : Mem} {Q : Int32 → Mem → Prop} (h :
    vp_in x1 8 ∧
    vp_in x2 8 ∧
    vp_in x1 8 ∧ 
    vp_in x2 8 ∧ 
    vp_in x1 8 ∧
    vp_in x2 8 ∧
    vp_in x1 8 ∧ 
    vp_in x2 8 ∧ 
    Q 0 (mset (mset (mset (mset M 40 (Int32.toNatClampNeg x1) (M 40 (Int32.toNatClampNeg x2))) 40 (Int32.toNatClampNeg x2) (M 40 (Int32.toNatClampNeg x1))) 41 (Int32.toNatClampNeg x1) (M 41 (Int32.toNatClampNeg x2))) 41 (Int32.toNatClampNeg x2) (M 41 (Int32.toNatClampNeg x1)))) : JE E (d) n_M_exchanges 0 [some (Sum.inr 31), some (Sum.inl x1), some (Sum.inl x2), none] [] M Q :=
  JE_steps 1000 [] (by decide) h
theorem b_M_lay_0 {E : Env0} {dd : Nat}  {M : Mem} {Q : Int32 → Mem → Prop} (h :
    CE E dd n_M_isGood [Sum.inr 31] M (fun r1 M1 =>
      (¬ r1 = 0 →
        JE E (dd + 1) n_M_lay 13 [some (Sum.inr 31), some (Sum.inl 0), some (Sum.inl 1), none, none, none, none, none, none] [] M1 Q) ∧
      (r1 = 0 →
        Q (-1) M1))) : JE E (dd + 1) n_M_lay 0 [some (Sum.inr 31), none, none, none, none, none, none, none, none] [] M Q :=
  JE_steps 1000 [13, 31, 44] (by decide) h
theorem b_M_lay_13 {E : Env0} {dd : Nat} (x1 : Int32) (x2 : Int32) (o3 : Option V) (o4 : Option V) (o5 : Option V) (o6 : Option V) (o7 : Option V) (o8 : Option V) {M : Mem} {Q : Int32 → Mem → Prop} (h :
    (x2 = 0 →
      Z01 0 ∧
      Q x1 (mset M 31 30 0)) ∧
    (¬ x2 = 0 →
      CE E dd n_M_planTicks [Sum.inr 31] M (fun r1 M1 =>
        JE E (dd + 1) n_M_lay 31 [some (Sum.inr 31), some (Sum.inl x1), some (Sum.inl x2), some (Sum.inl r1), some (Sum.inl (-1)), some (Sum.inl (-1)), some (Sum.inl 0), o7, o8] [] M1 Q))) : JE E (dd + 1) n_M_lay 13 [some (Sum.inr 31), some (Sum.inl x1), some (Sum.inl x2), o3, o4, o5, o6, o7, o8] [] M Q :=
  JE_steps 1000 [13, 31, 44] (by decide) h
theorem b_M_lay_31 {E : Env0} {dd : Nat} (x1 : Int32) (o2 : Option V) (x3 : Int32) (x4 : Int32) (x5 : Int32) (x6 : Int32) (o7 : Option V) (o8 : Option V) {M : Mem} {Q : Int32 → Mem → Prop} (h :
    ((8 : Int32) ≤ x6 →
      (x4 = ((-1) : Int32) →
        ((0 : Int32) = 0 →
          JE E (dd + 1) n_M_lay 13 [some (Sum.inr 31), some (Sum.inl x1), some (Sum.inl 0), some (Sum.inl x3), some (Sum.inl x4), some (Sum.inl x5), some (Sum.inl x6), o7, o8] [] M Q) ∧
        (¬ (0 : Int32) = 0 →
          CE E dd n_M_exchanges [Sum.inr 31, Sum.inl x4, Sum.inl x5] M (fun r1 M1 =>
            Z01 0 ∧
            JE E (dd + 1) n_M_lay 13 [some (Sum.inr 31), some (Sum.inl (x1 + 1)), some (Sum.inl 0), some (Sum.inl x3), some (Sum.inl x4), some (Sum.inl x5), some (Sum.inl x6), o7, o8] [] (mset M1 31 28 0) Q))) ∧
      (¬ x4 = ((-1) : Int32) →
        ((1 : Int32) = 0 →
          JE E (dd + 1) n_M_lay 13 [some (Sum.inr 31), some (Sum.inl x1), some (Sum.inl 1), some (Sum.inl x3), some (Sum.inl x4), some (Sum.inl x5), some (Sum.inl x6), o7, o8] [] M Q) ∧
        (¬ (1 : Int32) = 0 →
          CE E dd n_M_exchanges [Sum.inr 31, Sum.inl x4, Sum.inl x5] M (fun r2 M2 =>
            Z01 0 ∧
            JE E (dd + 1) n_M_lay 13 [some (Sum.inr 31), some (Sum.inl (x1 + 1)), some (Sum.inl 1), some (Sum.inl x3), some (Sum.inl x4), some (Sum.inl x5), some (Sum.inl x6), o7, o8] [] (mset M2 31 28 0) Q)))) ∧
    (¬ (8 : Int32) ≤ x6 →
      JE E (dd + 1) n_M_lay 44 [some (Sum.inr 31), some (Sum.inl x1), o2, some (Sum.inl x3), some (Sum.inl x4), some (Sum.inl x5), some (Sum.inl x6), some (Sum.inl (x6 + 1)), o8] [] M Q)) : JE E (dd + 1) n_M_lay 31 [some (Sum.inr 31), some (Sum.inl x1), o2, some (Sum.inl x3), some (Sum.inl x4), some (Sum.inl x5), some (Sum.inl x6), o7, o8] [] M Q :=
  JE_steps 1000 [13, 31, 44] (by decide) h
theorem b_M_lay_44 {E : Env0} {dd : Nat} (x1 : Int32) (o2 : Option V) (x3 : Int32) (x4 : Int32) (x5 : Int32) (x6 : Int32) (x7 : Int32) (o8 : Option V) {M : Mem} {Q : Int32 → Mem → Prop} (h :
    ((8 : Int32) ≤ x7 →
      JE E (dd + 1) n_M_lay 31 [some (Sum.inr 31), some (Sum.inl x1), o2, some (Sum.inl x3), some (Sum.inl x4), some (Sum.inl x5), some (Sum.inl (x6 + 1)), some (Sum.inl x7), o8] [] M Q) ∧
    (¬ (8 : Int32) ≤ x7 →
      CE E dd n_M_exchanges [Sum.inr 31, Sum.inl x6, Sum.inl x7] M (fun r1 M1 =>
        CE E dd n_M_planTicks [Sum.inr 31] M1 (fun r2 M2 =>
          CE E dd n_M_exchanges [Sum.inr 31, Sum.inl x6, Sum.inl x7] M2 (fun r3 M3 =>
            (r2 < x3 →
              JE E (dd + 1) n_M_lay 44 [some (Sum.inr 31), some (Sum.inl x1), o2, some (Sum.inl r2), some (Sum.inl x6), some (Sum.inl x7), some (Sum.inl x6), some (Sum.inl (x7 + 1)), some (Sum.inl r2)] [] M3 Q) ∧
            (¬ r2 < x3 →
              JE E (dd + 1) n_M_lay 44 [some (Sum.inr 31), some (Sum.inl x1), o2, some (Sum.inl x3), some (Sum.inl x4), some (Sum.inl x5), some (Sum.inl x6), some (Sum.inl (x7 + 1)), some (Sum.inl r2)] [] M3 Q)))))) : JE E (dd + 1) n_M_lay 44 [some (Sum.inr 31), some (Sum.inl x1), o2, some (Sum.inl x3), some (Sum.inl x4), some (Sum.inl x5), some (Sum.inl x6), some (Sum.inl x7), o8] [] M Q :=
  JE_steps 1000 [13, 31, 44] (by decide) h
theorem b_M_miss_0 {E : Env0} {dd : Nat} (x1 : Int32) {M : Mem} {Q : Int32 → Mem → Prop} (h :
    CE E dd n_M_lies [Sum.inl x1, Sum.inl 1, Sum.inl 200] M (fun r1 M1 =>
      (r1 = 0 →
        Z01 0 ∧ Q 0 M1) ∧
      (¬ r1 = 0 →
        vp_in x1 201 ∧
        ((M1 43 (Int32.toNatClampNeg x1)) = 0 →
          vp_in x1 201 ∧ Z01 1 ∧
          Z01 1 ∧ Q 1 (mset M1 43 (Int32.toNatClampNeg x1) 1)) ∧
        (¬ (M1 43 (Int32.toNatClampNeg x1)) = 0 →
          Z01 0 ∧ Q 0 M1)))) : JE E (dd + 1) n_M_miss 0 [some (Sum.inr 31), some (Sum.inl x1)] [] M Q :=
  JE_steps 1000 [] (by decide) h
theorem b_M_again_0 {E : Env0} {dd : Nat} (x1 : Int32) {M : Mem} {Q : Int32 → Mem → Prop} (h :
    CE E dd n_M_lies [Sum.inl x1, Sum.inl 0, Sum.inl 3] M (fun r1 M1 =>
      (¬ r1 = 0 →
        Z01 1 ∧ Q 1 (mset M1 31 19 x1)) ∧
      (r1 = 0 →
        Z01 0 ∧ Q 0 M1))) : JE E (dd + 1) n_M_again 0 [some (Sum.inr 31), some (Sum.inl x1)] [] M Q :=
  JE_steps 1000 [] (by decide) h
theorem b_M_isBehindMissing_0 {E : Env0} {d : Nat} (x1 : Int32) {M : Mem} {Q : Int32 → Mem → Prop} (h :
    JE E d n_M_isBehindMissing 2 [some (Sum.inr 31), some (Sum.inl x1), some (Sum.inl 0)] [] M Q) : JE E (d) n_M_isBehindMissing 0 [some (Sum.inr 31), some (Sum.inl x1), none] [] M Q :=
  JE_steps 1000 [2] (by decide) h
theorem b_M_isBehindMissing_2 {E : Env0} {d : Nat} (x1 : Int32) (x2 : Int32) {M : Mem} {Q : Int32 → Mem → Prop} (h :
    ((M 31 4) ≤ x2 →
      Z01 0 ∧ Q 0 M) ∧
    (¬ (M 31 4) ≤ x2 →
      vp_in ((10 * x1) + x2) 100 ∧
      ((M 39 (Int32.toNatClampNeg ((10 * x1) + x2))) = 0 →
        JE E d n_M_isBehindMissing 2 [some (Sum.inr 31), some (Sum.inl x1), some (Sum.inl (x2 + 1))] [] M Q) ∧
      (¬ (M 39 (Int32.toNatClampNeg ((10 * x1) + x2))) = 0 →
        vp_in x2 10 ∧
        (¬ (M 48 (Int32.toNatClampNeg x2)) = (2 : Int32) →
          JE E d n_M_isBehindMissing 2 [some (Sum.inr 31), some (Sum.inl x1), some (Sum.inl (x2 + 1))] [] M Q) ∧
        ((M 48 (Int32.toNatClampNeg x2)) = (2 : Int32) →
          Z01 1 ∧ Q 1 M)))) : JE E (d) n_M_isBehindMissing 2 [some (Sum.inr 31), some (Sum.inl x1), some (Sum.inl x2)] [] M Q :=
  JE_steps 1000 [2] (by decide) h
theorem b_M_gives_0 {E : Env0} {d : Nat} (x1 : Int32) (x2 : Int32) (x3 : Int32) {M : Mem} {Q : Int32 → Mem → Prop} (h :
    JE E d n_M_gives 3 [some (Sum.inr 31), some (Sum.inl x1), some (Sum.inl x2), some (Sum.inl x3), some (Sum.inl 0), none, none] [] M Q) : JE E (d) n_M_gives 0 [some (Sum.inr 31), some (Sum.inl x1), some (Sum.inl x2), some (Sum.inl x3), none, none, none] [] M Q :=
  JE_steps 1000 [3, 35] (by decide) h
theorem b_M_gives_3 {E : Env0} {d : Nat} (x1 : Int32) (x2 : Int32) (x3 : Int32) (x4 : Int32) (o5 : Option V) (o6 : Option V) {M : Mem} {Q : Int32 → Mem → Prop} (h :
    ((8 : Int32) ≤ x4 →
      Q (-1) M) ∧
    (¬ (8 : Int32) ≤ x4 →
      vp_in x4 8 ∧
      vp_in x1 10 ∧
      ((M 40 (Int32.toNatClampNeg x4)) = (M 38 (Int32.toNatClampNeg x1)) →
        JE E d n_M_gives 35 [some (Sum.inr 31), some (Sum.inl x1), some (Sum.inl x2), some (Sum.inl x3), some (Sum.inl x4), some (Sum.inl 0), some (Sum.inl x2)] [] M Q) ∧
      (¬ (M 40 (Int32.toNatClampNeg x4)) = (M 38 (Int32.toNatClampNeg x1)) →
        JE E d n_M_gives 3 [some (Sum.inr 31), some (Sum.inl x1), some (Sum.inl x2), some (Sum.inl x3), some (Sum.inl (x4 + 1)), o5, o6] [] M Q))) : JE E (d) n_M_gives 3 [some (Sum.inr 31), some (Sum.inl x1), some (Sum.inl x2), some (Sum.inl x3), some (Sum.inl x4), o5, o6] [] M Q :=
  JE_steps 1000 [3, 35] (by decide) h
theorem b_M_gives_35 {E : Env0} {d : Nat} (x1 : Int32) (x2 : Int32) (x3 : Int32) (x4 : Int32) (x5 : Int32) (x6 : Int32) {M : Mem} {Q : Int32 → Mem → Prop} (h :
    (x3 ≤ x6 →
      vp_in x4 8 ∧
      ((M 41 (Int32.toNatClampNeg x4)) ≤ x5 →
        JE E d n_M_gives 3 [some (Sum.inr 31), some (Sum.inl x1), some (Sum.inl x2), some (Sum.inl x3), some (Sum.inl (x4 + 1)), some (Sum.inl x5), some (Sum.inl x6)] [] M Q) ∧
      (¬ (M 41 (Int32.toNatClampNeg x4)) ≤ x5 →
        Q x4 M)) ∧
    (¬ x3 ≤ x6 →
      vp_in x6 10 ∧
      NZ 16 ∧
      vp_in ((M 42 (Int32.toNatClampNeg x6)) - (M 42 (Int32.toNatClampNeg x6)) / 16 * 16) 10 ∧
      (¬ (M 48 (Int32.toNatClampNeg ((M 42 (Int32.toNatClampNeg x6)) - (M 42 (Int32.toNatClampNeg x6)) / 16 * 16))) = 0 →
        JE E d n_M_gives 35 [some (Sum.inr 31), some (Sum.inl x1), some (Sum.inl x2), some (Sum.inl x3), some (Sum.inl x4), some (Sum.inl (x5 + 0)), some (Sum.inl (x6 + 1))] [] M Q) ∧
      ((M 48 (Int32.toNatClampNeg ((M 42 (Int32.toNatClampNeg x6)) - (M 42 (Int32.toNatClampNeg x6)) / 16 * 16))) = 0 →
        vp_in x6 10 ∧
        NZ 16 ∧
        vp_in ((M 42 (Int32.toNatClampNeg x6)) - (M 42 (Int32.toNatClampNeg x6)) / 16 * 16) 10 ∧
        (¬ (M 49 (Int32.toNatClampNeg ((M 42 (Int32.toNatClampNeg x6)) - (M 42 (Int32.toNatClampNeg x6)) / 16 * 16))) = x4 →
          JE E d n_M_gives 35 [some (Sum.inr 31), some (Sum.inl x1), some (Sum.inl x2), some (Sum.inl x3), some (Sum.inl x4), some (Sum.inl (x5 + 0)), some (Sum.inl (x6 + 1))] [] M Q) ∧
        ((M 49 (Int32.toNatClampNeg ((M 42 (Int32.toNatClampNeg x6)) - (M 42 (Int32.toNatClampNeg x6)) / 16 * 16))) = x4 →
          JE E d n_M_gives 35 [some (Sum.inr 31), some (Sum.inl x1), some (Sum.inl x2), some (Sum.inl x3), some (Sum.inl x4), some (Sum.inl (x5 + 1)), some (Sum.inl (x6 + 1))] [] M Q)))) : JE E (d) n_M_gives 35 [some (Sum.inr 31), some (Sum.inl x1), some (Sum.inl x2), some (Sum.inl x3), some (Sum.inl x4), some (Sum.inl x5), some (Sum.inl x6)] [] M Q :=
  JE_steps 1000 [3, 35] (by decide) h
theorem b_M_takes_0 {E : Env0} {d : Nat} (x1 : Int32) {M : Mem} {Q : Int32 → Mem → Prop} (h :
    vp_in x1 10 ∧
    JE E d n_M_takes 9 [some (Sum.inr 31), some (Sum.inl x1), some (Sum.inl (M 49 (Int32.toNatClampNeg x1))), some (Sum.inl 0)] [] M Q) : JE E (d) n_M_takes 0 [some (Sum.inr 31), some (Sum.inl x1), none, none] [] M Q :=
  JE_steps 1000 [9] (by decide) h
theorem b_M_takes_9 {E : Env0} {d : Nat} (x1 : Int32) (x2 : Int32) (x3 : Int32) {M : Mem} {Q : Int32 → Mem → Prop} (h :
    ((M 31 19) < x3 →
      vp_in x1 10 ∧
      (¬ (M 50 (Int32.toNatClampNeg x1)) = 0 →
        Q 0 M) ∧
      ((M 50 (Int32.toNatClampNeg x1)) = 0 →
        vp_in x1 10 ∧ 
        Q 0 (mset M 48 (Int32.toNatClampNeg x1) 2))) ∧
    (¬ (M 31 19) < x3 →
      vp_in x1 10 ∧
      (¬ (M 50 (Int32.toNatClampNeg x1)) = 0 →
        vp_in x1 10 ∧
        (¬ (M 50 (Int32.toNatClampNeg x1)) = 0 →
          Q 0 M) ∧
        ((M 50 (Int32.toNatClampNeg x1)) = 0 →
          vp_in x1 10 ∧ 
          Q 0 (mset M 48 (Int32.toNatClampNeg x1) 2))) ∧
      ((M 50 (Int32.toNatClampNeg x1)) = 0 →
        vp_in x2 8 ∧
        ((M 41 (Int32.toNatClampNeg x2)) ≤ 0 →
          vp_in x1 10 ∧
          (¬ (M 50 (Int32.toNatClampNeg x1)) = 0 →
            Q 0 M) ∧
          ((M 50 (Int32.toNatClampNeg x1)) = 0 →
            vp_in x1 10 ∧ 
            Q 0 (mset M 48 (Int32.toNatClampNeg x1) 2))) ∧
        (¬ (M 41 (Int32.toNatClampNeg x2)) ≤ 0 →
          vp_in x2 8 ∧
          vp_in x2 8 ∧ 
          ((200 : Int32) < ((M 31 33) + 1) →
            vp_in x1 10 ∧ Z01 1 ∧
            vp_in x1 10 ∧
            (((mset (mset (mset (mset M 41 (Int32.toNatClampNeg x2) ((M 41 (Int32.toNatClampNeg x2)) - 1)) 31 33 ((M 31 33) + 1)) 31 24 ((M 31 24) + (M 31 12))) 50 (Int32.toNatClampNeg x1) 1) 50 (Int32.toNatClampNeg x1)) = 0 →
              JE E d n_M_takes 9 [some (Sum.inr 31), some (Sum.inl x1), some (Sum.inl x2), some (Sum.inl (x3 + 1))] [] (mset (mset (mset (mset (mset M 41 (Int32.toNatClampNeg x2) ((M 41 (Int32.toNatClampNeg x2)) - 1)) 31 33 ((M 31 33) + 1)) 31 24 ((M 31 24) + (M 31 12))) 50 (Int32.toNatClampNeg x1) 1) 31 34 ((M 31 34) + 1)) Q) ∧
            (¬ ((mset (mset (mset (mset M 41 (Int32.toNatClampNeg x2) ((M 41 (Int32.toNatClampNeg x2)) - 1)) 31 33 ((M 31 33) + 1)) 31 24 ((M 31 24) + (M 31 12))) 50 (Int32.toNatClampNeg x1) 1) 50 (Int32.toNatClampNeg x1)) = 0 →
              JE E d n_M_takes 9 [some (Sum.inr 31), some (Sum.inl x1), some (Sum.inl x2), some (Sum.inl (x3 + 1))] [] (mset (mset (mset (mset (mset M 41 (Int32.toNatClampNeg x2) ((M 41 (Int32.toNatClampNeg x2)) - 1)) 31 33 ((M 31 33) + 1)) 31 24 ((M 31 24) + (M 31 12))) 50 (Int32.toNatClampNeg x1) 1) 31 34 ((M 31 34) + 0)) Q)) ∧
          (¬ (200 : Int32) < ((M 31 33) + 1) →
            vp_in ((M 31 33) + 1) 201 ∧
            (¬ (M 43 (Int32.toNatClampNeg ((M 31 33) + 1))) = 0 →
              vp_in x1 10 ∧ Z01 0 ∧
              vp_in x1 10 ∧
              (((mset (mset (mset (mset M 41 (Int32.toNatClampNeg x2) ((M 41 (Int32.toNatClampNeg x2)) - 1)) 31 33 ((M 31 33) + 1)) 31 24 ((M 31 24) + (M 31 12))) 50 (Int32.toNatClampNeg x1) 0) 50 (Int32.toNatClampNeg x1)) = 0 →
                JE E d n_M_takes 9 [some (Sum.inr 31), some (Sum.inl x1), some (Sum.inl x2), some (Sum.inl (x3 + 1))] [] (mset (mset (mset (mset (mset M 41 (Int32.toNatClampNeg x2) ((M 41 (Int32.toNatClampNeg x2)) - 1)) 31 33 ((M 31 33) + 1)) 31 24 ((M 31 24) + (M 31 12))) 50 (Int32.toNatClampNeg x1) 0) 31 34 ((M 31 34) + 1)) Q) ∧
              (¬ ((mset (mset (mset (mset M 41 (Int32.toNatClampNeg x2) ((M 41 (Int32.toNatClampNeg x2)) - 1)) 31 33 ((M 31 33) + 1)) 31 24 ((M 31 24) + (M 31 12))) 50 (Int32.toNatClampNeg x1) 0) 50 (Int32.toNatClampNeg x1)) = 0 →
                JE E d n_M_takes 9 [some (Sum.inr 31), some (Sum.inl x1), some (Sum.inl x2), some (Sum.inl (x3 + 1))] [] (mset (mset (mset (mset (mset M 41 (Int32.toNatClampNeg x2) ((M 41 (Int32.toNatClampNeg x2)) - 1)) 31 33 ((M 31 33) + 1)) 31 24 ((M 31 24) + (M 31 12))) 50 (Int32.toNatClampNeg x1) 0) 31 34 ((M 31 34) + 0)) Q)) ∧
            ((M 43 (Int32.toNatClampNeg ((M 31 33) + 1))) = 0 →
              vp_in x1 10 ∧ Z01 1 ∧
              vp_in x1 10 ∧
              (((mset (mset (mset (mset M 41 (Int32.toNatClampNeg x2) ((M 41 (Int32.toNatClampNeg x2)) - 1)) 31 33 ((M 31 33) + 1)) 31 24 ((M 31 24) + (M 31 12))) 50 (Int32.toNatClampNeg x1) 1) 50 (Int32.toNatClampNeg x1)) = 0 →
                JE E d n_M_takes 9 [some (Sum.inr 31), some (Sum.inl x1), some (Sum.inl x2), some (Sum.inl (x3 + 1))] [] (mset (mset (mset (mset (mset M 41 (Int32.toNatClampNeg x2) ((M 41 (Int32.toNatClampNeg x2)) - 1)) 31 33 ((M 31 33) + 1)) 31 24 ((M 31 24) + (M 31 12))) 50 (Int32.toNatClampNeg x1) 1) 31 34 ((M 31 34) + 1)) Q) ∧
              (¬ ((mset (mset (mset (mset M 41 (Int32.toNatClampNeg x2) ((M 41 (Int32.toNatClampNeg x2)) - 1)) 31 33 ((M 31 33) + 1)) 31 24 ((M 31 24) + (M 31 12))) 50 (Int32.toNatClampNeg x1) 1) 50 (Int32.toNatClampNeg x1)) = 0 →
                JE E d n_M_takes 9 [some (Sum.inr 31), some (Sum.inl x1), some (Sum.inl x2), some (Sum.inl (x3 + 1))] [] (mset (mset (mset (mset (mset M 41 (Int32.toNatClampNeg x2) ((M 41 (Int32.toNatClampNeg x2)) - 1)) 31 33 ((M 31 33) + 1)) 31 24 ((M 31 24) + (M 31 12))) 50 (Int32.toNatClampNeg x1) 1) 31 34 ((M 31 34) + 0)) Q))))))) : JE E (d) n_M_takes 9 [some (Sum.inr 31), some (Sum.inl x1), some (Sum.inl x2), some (Sum.inl x3)] [] M Q :=
  JE_steps 1000 [9] (by decide) h
theorem b_M_tour_0 {E : Env0} {d : Nat}  {M : Mem} {Q : Int32 → Mem → Prop} (h :
    JE E d n_M_tour 7 [some (Sum.inr 31), some (Sum.inl ((M 31 32) + 1)), none, none, none, none, none, none] [] M Q) : JE E (d) n_M_tour 0 [some (Sum.inr 31), none, none, none, none, none, none, none] [] M Q :=
  JE_steps 1000 [7, 28, 61, 79, 98, 167, 233, 242, 255, 354, 412, 418, 430, 516] (by decide) h
theorem b_M_tour_7 {E : Env0} {dd : Nat} (x1 : Int32) (o2 : Option V) (o3 : Option V) (o4 : Option V) (o5 : Option V) (o6 : Option V) (o7 : Option V) {M : Mem} {Q : Int32 → Mem → Prop} (h :
    CE E dd n_M_begins1 [Sum.inr 31, Sum.inl x1] M (fun r1 M1 =>
      (¬ r1 = 0 →
        JE E (dd + 1) n_M_tour 28 [some (Sum.inr 31), some (Sum.inl x1), some (Sum.inl 0), some (Sum.inl (M1 31 32)), o4, o5, o6, o7] [] M1 Q) ∧
      (r1 = 0 →
        JE E (dd + 1) n_M_tour 7 [some (Sum.inr 31), some (Sum.inl (x1 + 1)), o2, o3, o4, o5, o6, o7] [] M1 Q))) : JE E (dd + 1) n_M_tour 7 [some (Sum.inr 31), some (Sum.inl x1), o2, o3, o4, o5, o6, o7] [] M Q :=
  JE_steps 1000 [7, 28, 61, 79, 98, 167, 233, 242, 255, 354, 412, 418, 430, 516] (by decide) h
theorem b_M_tour_28 {E : Env0} {dd : Nat} (x1 : Int32) (x2 : Int32) (x3 : Int32) (o4 : Option V) (o5 : Option V) (o6 : Option V) (o7 : Option V) {M : Mem} {Q : Int32 → Mem → Prop} (h :
    (x1 ≤ x3 →
      JE E (dd + 1) n_M_tour 98 [some (Sum.inr 31), some (Sum.inl x1), some (Sum.inl x2), some (Sum.inl (M 31 32)), o4, o5, o6, o7] [] M Q) ∧
    (¬ x1 ≤ x3 →
      vp_in x3 10 ∧
      NZ 16 ∧
      CE E dd n_M_isBehindMissing [Sum.inr 31, Sum.inl ((M 42 (Int32.toNatClampNeg x3)) - (M 42 (Int32.toNatClampNeg x3)) / 16 * 16)] M (fun r1 M1 =>
        (r1 = 0 →
          JE E (dd + 1) n_M_tour 61 [some (Sum.inr 31), some (Sum.inl x1), some (Sum.inl x2), some (Sum.inl x3), some (Sum.inl ((M 42 (Int32.toNatClampNeg x3)) - (M 42 (Int32.toNatClampNeg x3)) / 16 * 16)), o5, o6, o7] [] M1 Q) ∧
        (¬ r1 = 0 →
          vp_in ((M 42 (Int32.toNatClampNeg x3)) - (M 42 (Int32.toNatClampNeg x3)) / 16 * 16) 10 ∧ 
          JE E (dd + 1) n_M_tour 61 [some (Sum.inr 31), some (Sum.inl x1), some (Sum.inl x2), some (Sum.inl x3), some (Sum.inl ((M 42 (Int32.toNatClampNeg x3)) - (M 42 (Int32.toNatClampNeg x3)) / 16 * 16)), o5, o6, o7] [] (mset M1 48 (Int32.toNatClampNeg ((M 42 (Int32.toNatClampNeg x3)) - (M 42 (Int32.toNatClampNeg x3)) / 16 * 16)) 2) Q)))) : JE E (dd + 1) n_M_tour 28 [some (Sum.inr 31), some (Sum.inl x1), some (Sum.inl x2), some (Sum.inl x3), o4, o5, o6, o7] [] M Q :=
  JE_steps 1000 [7, 28, 61, 79, 98, 167, 233, 242, 255, 354, 412, 418, 430, 516] (by decide) h
theorem b_M_tour_61 {E : Env0} {d : Nat} (x1 : Int32) (x2 : Int32) (x3 : Int32) (x4 : Int32) (o5 : Option V) (o6 : Option V) (o7 : Option V) {M : Mem} {Q : Int32 → Mem → Prop} (h :
    vp_in x4 10 ∧
    (¬ (M 48 (Int32.toNatClampNeg x4)) = 0 →
      JE E d n_M_tour 79 [some (Sum.inr 31), some (Sum.inl x1), some (Sum.inl (x2 + 0)), some (Sum.inl x3), some (Sum.inl x4), o5, o6, o7] [] M Q) ∧
    ((M 48 (Int32.toNatClampNeg x4)) = 0 →
      JE E d n_M_tour 79 [some (Sum.inr 31), some (Sum.inl x1), some (Sum.inl (x2 + 1)), some (Sum.inl x3), some (Sum.inl x4), o5, o6, o7] [] M Q)) : JE E (d) n_M_tour 61 [some (Sum.inr 31), some (Sum.inl x1), some (Sum.inl x2), some (Sum.inl x3), some (Sum.inl x4), o5, o6, o7] [] M Q :=
  JE_steps 1000 [7, 28, 61, 79, 98, 167, 233, 242, 255, 354, 412, 418, 430, 516] (by decide) h
theorem b_M_tour_79 {E : Env0} {d : Nat} (x1 : Int32) (x2 : Int32) (x3 : Int32) (x4 : Int32) (o5 : Option V) (o6 : Option V) (o7 : Option V) {M : Mem} {Q : Int32 → Mem → Prop} (h :
    vp_in x4 10 ∧ Z01 0 ∧
    JE E d n_M_tour 28 [some (Sum.inr 31), some (Sum.inl x1), some (Sum.inl x2), some (Sum.inl (x3 + 1)), some (Sum.inl x4), o5, o6, o7] [] (mset M 50 (Int32.toNatClampNeg x4) 0) Q) : JE E (d) n_M_tour 79 [some (Sum.inr 31), some (Sum.inl x1), some (Sum.inl x2), some (Sum.inl x3), some (Sum.inl x4), o5, o6, o7] [] M Q :=
  JE_steps 1000 [7, 28, 61, 79, 98, 167, 233, 242, 255, 354, 412, 418, 430, 516] (by decide) h
theorem b_M_tour_98 {E : Env0} {dd : Nat} (x1 : Int32) (x2 : Int32) (x3 : Int32) (o4 : Option V) (o5 : Option V) (o6 : Option V) (o7 : Option V) {M : Mem} {Q : Int32 → Mem → Prop} (h :
    (x1 ≤ x3 →
      (¬ x2 = 0 →
        CE E dd n_M_kindAt [Sum.inr 31, Sum.inl (M 31 32)] (mset (mset M 31 32 x1) 31 35 ((M 31 35) + 1)) (fun r1 M1 =>
          vp_in r1 8 ∧
          ((M1 31 23) = (M1 34 (Int32.toNatClampNeg r1)) →
            JE E (dd + 1) n_M_tour 233 [some (Sum.inr 31), some (Sum.inl x1), some (Sum.inl x2), some (Sum.inl (M 31 32)), some (Sum.inl (M1 34 (Int32.toNatClampNeg r1))), o5, o6, o7] [] M1 Q) ∧
          (¬ (M1 31 23) = (M1 34 (Int32.toNatClampNeg r1)) →
            JE E (dd + 1) n_M_tour 233 [some (Sum.inr 31), some (Sum.inl x1), some (Sum.inl x2), some (Sum.inl (M 31 32)), some (Sum.inl (M1 34 (Int32.toNatClampNeg r1))), o5, o6, o7] [] (mset M1 31 24 ((M1 31 24) + (M1 31 15))) Q))) ∧
      (x2 = 0 →
        Z01 1 ∧ Q 1 (mset (mset M 31 32 x1) 31 35 ((M 31 35) + 1)))) ∧
    (¬ x1 ≤ x3 →
      vp_in x3 10 ∧
      NZ 16 ∧
      vp_in ((M 42 (Int32.toNatClampNeg x3)) - (M 42 (Int32.toNatClampNeg x3)) / 16 * 16) 10 ∧
      ((M 48 (Int32.toNatClampNeg ((M 42 (Int32.toNatClampNeg x3)) - (M 42 (Int32.toNatClampNeg x3)) / 16 * 16))) = 0 →
        CE E dd n_M_gives [Sum.inr 31, Sum.inl ((M 42 (Int32.toNatClampNeg x3)) - (M 42 (Int32.toNatClampNeg x3)) / 16 * 16), Sum.inl (M 31 32), Sum.inl x3] M (fun r2 M2 =>
          vp_in ((M 42 (Int32.toNatClampNeg x3)) - (M 42 (Int32.toNatClampNeg x3)) / 16 * 16) 10 ∧ 
          vp_in ((M 42 (Int32.toNatClampNeg x3)) - (M 42 (Int32.toNatClampNeg x3)) / 16 * 16) 10 ∧
          (((mset M2 49 (Int32.toNatClampNeg ((M 42 (Int32.toNatClampNeg x3)) - (M 42 (Int32.toNatClampNeg x3)) / 16 * 16)) r2) 49 (Int32.toNatClampNeg ((M 42 (Int32.toNatClampNeg x3)) - (M 42 (Int32.toNatClampNeg x3)) / 16 * 16))) = ((-1) : Int32) →
            Z01 0 ∧ Q 0 (mset (mset M2 49 (Int32.toNatClampNeg ((M 42 (Int32.toNatClampNeg x3)) - (M 42 (Int32.toNatClampNeg x3)) / 16 * 16)) r2) 31 36 ((M 42 (Int32.toNatClampNeg x3)) - (M 42 (Int32.toNatClampNeg x3)) / 16 * 16))) ∧
          (¬ ((mset M2 49 (Int32.toNatClampNeg ((M 42 (Int32.toNatClampNeg x3)) - (M 42 (Int32.toNatClampNeg x3)) / 16 * 16)) r2) 49 (Int32.toNatClampNeg ((M 42 (Int32.toNatClampNeg x3)) - (M 42 (Int32.toNatClampNeg x3)) / 16 * 16))) = ((-1) : Int32) →
            JE E (dd + 1) n_M_tour 167 [some (Sum.inr 31), some (Sum.inl x1), some (Sum.inl x2), some (Sum.inl x3), some (Sum.inl ((M 42 (Int32.toNatClampNeg x3)) - (M 42 (Int32.toNatClampNeg x3)) / 16 * 16)), o5, o6, o7] [] (mset M2 49 (Int32.toNatClampNeg ((M 42 (Int32.toNatClampNeg x3)) - (M 42 (Int32.toNatClampNeg x3)) / 16 * 16)) r2) Q))) ∧
      (¬ (M 48 (Int32.toNatClampNeg ((M 42 (Int32.toNatClampNeg x3)) - (M 42 (Int32.toNatClampNeg x3)) / 16 * 16))) = 0 →
        JE E (dd + 1) n_M_tour 167 [some (Sum.inr 31), some (Sum.inl x1), some (Sum.inl x2), some (Sum.inl x3), some (Sum.inl ((M 42 (Int32.toNatClampNeg x3)) - (M 42 (Int32.toNatClampNeg x3)) / 16 * 16)), o5, o6, o7] [] M Q))) : JE E (dd + 1) n_M_tour 98 [some (Sum.inr 31), some (Sum.inl x1), some (Sum.inl x2), some (Sum.inl x3), o4, o5, o6, o7] [] M Q :=
  JE_steps 1000 [7, 28, 61, 79, 98, 167, 233, 242, 255, 354, 412, 418, 430, 516] (by decide) h
theorem b_M_tour_167 {E : Env0} {d : Nat} (x1 : Int32) (x2 : Int32) (x3 : Int32) (o4 : Option V) (o5 : Option V) (o6 : Option V) (o7 : Option V) {M : Mem} {Q : Int32 → Mem → Prop} (h :
    JE E d n_M_tour 98 [some (Sum.inr 31), some (Sum.inl x1), some (Sum.inl x2), some (Sum.inl (x3 + 1)), o4, o5, o6, o7] [] M Q) : JE E (d) n_M_tour 167 [some (Sum.inr 31), some (Sum.inl x1), some (Sum.inl x2), some (Sum.inl x3), o4, o5, o6, o7] [] M Q :=
  JE_steps 1000 [7, 28, 61, 79, 98, 167, 233, 242, 255, 354, 412, 418, 430, 516] (by decide) h
theorem b_M_tour_233 {E : Env0} {d : Nat} (x1 : Int32) (o2 : Option V) (x3 : Int32) (x4 : Int32) (o5 : Option V) (o6 : Option V) (o7 : Option V) {M : Mem} {Q : Int32 → Mem → Prop} (h :
    JE E d n_M_tour 242 [some (Sum.inr 31), some (Sum.inl x1), o2, some (Sum.inl x3), some (Sum.inl x4), some (Sum.inl 0), o6, o7] [] (mset M 31 23 x4) Q) : JE E (d) n_M_tour 233 [some (Sum.inr 31), some (Sum.inl x1), o2, some (Sum.inl x3), some (Sum.inl x4), o5, o6, o7] [] M Q :=
  JE_steps 1000 [7, 28, 61, 79, 98, 167, 233, 242, 255, 354, 412, 418, 430, 516] (by decide) h
theorem b_M_tour_242 {E : Env0} {d : Nat} (x1 : Int32) (o2 : Option V) (x3 : Int32) (o4 : Option V) (x5 : Int32) (o6 : Option V) (o7 : Option V) {M : Mem} {Q : Int32 → Mem → Prop} (h :
    ((8 : Int32) ≤ x5 →
      JE E d n_M_tour 430 [some (Sum.inr 31), some (Sum.inl x1), o2, some (Sum.inl x3), o4, some (Sum.inl 0), some (Sum.inl x3), o7] [] M Q) ∧
    (¬ (8 : Int32) ≤ x5 →
      JE E d n_M_tour 255 [some (Sum.inr 31), some (Sum.inl x1), o2, some (Sum.inl x3), o4, some (Sum.inl x5), some (Sum.inl 0), some (Sum.inl x3)] [] M Q)) : JE E (d) n_M_tour 242 [some (Sum.inr 31), some (Sum.inl x1), o2, some (Sum.inl x3), o4, some (Sum.inl x5), o6, o7] [] M Q :=
  JE_steps 1000 [7, 28, 61, 79, 98, 167, 233, 242, 255, 354, 412, 418, 430, 516] (by decide) h
theorem b_M_tour_255 {E : Env0} {dd : Nat} (x1 : Int32) (o2 : Option V) (x3 : Int32) (o4 : Option V) (x5 : Int32) (x6 : Int32) (x7 : Int32) {M : Mem} {Q : Int32 → Mem → Prop} (h :
    (x1 ≤ x7 →
      (¬ x6 = 0 →
        CE E dd n_M_goes [Sum.inr 31, Sum.inl (20 * x5), Sum.inl 0] M (fun r1 M1 =>
          JE E (dd + 1) n_M_tour 354 [some (Sum.inr 31), some (Sum.inl x1), o2, some (Sum.inl x3), o4, some (Sum.inl x5), some (Sum.inl x6), some (Sum.inl x3)] [] M1 Q)) ∧
      (x6 = 0 →
        JE E (dd + 1) n_M_tour 418 [some (Sum.inr 31), some (Sum.inl x1), o2, some (Sum.inl x3), o4, some (Sum.inl x5), some (Sum.inl x6), some (Sum.inl x7)] [] M Q)) ∧
    (¬ x1 ≤ x7 →
      vp_in x7 10 ∧
      NZ 16 ∧
      vp_in ((M 42 (Int32.toNatClampNeg x7)) - (M 42 (Int32.toNatClampNeg x7)) / 16 * 16) 10 ∧
      (¬ (M 48 (Int32.toNatClampNeg ((M 42 (Int32.toNatClampNeg x7)) - (M 42 (Int32.toNatClampNeg x7)) / 16 * 16))) = 0 →
        JE E (dd + 1) n_M_tour 255 [some (Sum.inr 31), some (Sum.inl x1), o2, some (Sum.inl x3), o4, some (Sum.inl x5), some (Sum.inl (x6 + 0)), some (Sum.inl (x7 + 1))] [] M Q) ∧
      ((M 48 (Int32.toNatClampNeg ((M 42 (Int32.toNatClampNeg x7)) - (M 42 (Int32.toNatClampNeg x7)) / 16 * 16))) = 0 →
        vp_in x7 10 ∧
        NZ 16 ∧
        vp_in ((M 42 (Int32.toNatClampNeg x7)) - (M 42 (Int32.toNatClampNeg x7)) / 16 * 16) 10 ∧
        (¬ (M 50 (Int32.toNatClampNeg ((M 42 (Int32.toNatClampNeg x7)) - (M 42 (Int32.toNatClampNeg x7)) / 16 * 16))) = 0 →
          JE E (dd + 1) n_M_tour 255 [some (Sum.inr 31), some (Sum.inl x1), o2, some (Sum.inl x3), o4, some (Sum.inl x5), some (Sum.inl (x6 + 0)), some (Sum.inl (x7 + 1))] [] M Q) ∧
        ((M 50 (Int32.toNatClampNeg ((M 42 (Int32.toNatClampNeg x7)) - (M 42 (Int32.toNatClampNeg x7)) / 16 * 16))) = 0 →
          vp_in x7 10 ∧
          NZ 16 ∧
          vp_in ((M 42 (Int32.toNatClampNeg x7)) - (M 42 (Int32.toNatClampNeg x7)) / 16 * 16) 10 ∧
          (¬ (M 49 (Int32.toNatClampNeg ((M 42 (Int32.toNatClampNeg x7)) - (M 42 (Int32.toNatClampNeg x7)) / 16 * 16))) = x5 →
            JE E (dd + 1) n_M_tour 255 [some (Sum.inr 31), some (Sum.inl x1), o2, some (Sum.inl x3), o4, some (Sum.inl x5), some (Sum.inl (x6 + 0)), some (Sum.inl (x7 + 1))] [] M Q) ∧
          ((M 49 (Int32.toNatClampNeg ((M 42 (Int32.toNatClampNeg x7)) - (M 42 (Int32.toNatClampNeg x7)) / 16 * 16))) = x5 →
            JE E (dd + 1) n_M_tour 255 [some (Sum.inr 31), some (Sum.inl x1), o2, some (Sum.inl x3), o4, some (Sum.inl x5), some (Sum.inl (x6 + 1)), some (Sum.inl (x7 + 1))] [] M Q))))) : JE E (dd + 1) n_M_tour 255 [some (Sum.inr 31), some (Sum.inl x1), o2, some (Sum.inl x3), o4, some (Sum.inl x5), some (Sum.inl x6), some (Sum.inl x7)] [] M Q :=
  JE_steps 1000 [7, 28, 61, 79, 98, 167, 233, 242, 255, 354, 412, 418, 430, 516] (by decide) h
theorem b_M_tour_354 {E : Env0} {dd : Nat} (x1 : Int32) (o2 : Option V) (x3 : Int32) (o4 : Option V) (x5 : Int32) (o6 : Option V) (x7 : Int32) {M : Mem} {Q : Int32 → Mem → Prop} (h :
    (x1 ≤ x7 →
      JE E (dd + 1) n_M_tour 418 [some (Sum.inr 31), some (Sum.inl x1), o2, some (Sum.inl x3), o4, some (Sum.inl x5), o6, some (Sum.inl x7)] [] M Q) ∧
    (¬ x1 ≤ x7 →
      vp_in x7 10 ∧
      NZ 16 ∧
      vp_in ((M 42 (Int32.toNatClampNeg x7)) - (M 42 (Int32.toNatClampNeg x7)) / 16 * 16) 10 ∧
      (¬ (M 48 (Int32.toNatClampNeg ((M 42 (Int32.toNatClampNeg x7)) - (M 42 (Int32.toNatClampNeg x7)) / 16 * 16))) = 0 →
        JE E (dd + 1) n_M_tour 412 [some (Sum.inr 31), some (Sum.inl x1), o2, some (Sum.inl x3), o4, some (Sum.inl x5), o6, some (Sum.inl x7)] [] M Q) ∧
      ((M 48 (Int32.toNatClampNeg ((M 42 (Int32.toNatClampNeg x7)) - (M 42 (Int32.toNatClampNeg x7)) / 16 * 16))) = 0 →
        vp_in x7 10 ∧
        NZ 16 ∧
        vp_in ((M 42 (Int32.toNatClampNeg x7)) - (M 42 (Int32.toNatClampNeg x7)) / 16 * 16) 10 ∧
        (¬ (M 49 (Int32.toNatClampNeg ((M 42 (Int32.toNatClampNeg x7)) - (M 42 (Int32.toNatClampNeg x7)) / 16 * 16))) = x5 →
          JE E (dd + 1) n_M_tour 412 [some (Sum.inr 31), some (Sum.inl x1), o2, some (Sum.inl x3), o4, some (Sum.inl x5), o6, some (Sum.inl x7)] [] M Q) ∧
        ((M 49 (Int32.toNatClampNeg ((M 42 (Int32.toNatClampNeg x7)) - (M 42 (Int32.toNatClampNeg x7)) / 16 * 16))) = x5 →
          vp_in x7 10 ∧
          NZ 16 ∧
          CE E dd n_M_takes [Sum.inr 31, Sum.inl ((M 42 (Int32.toNatClampNeg x7)) - (M 42 (Int32.toNatClampNeg x7)) / 16 * 16)] M (fun r1 M1 =>
            JE E (dd + 1) n_M_tour 412 [some (Sum.inr 31), some (Sum.inl x1), o2, some (Sum.inl x3), o4, some (Sum.inl x5), o6, some (Sum.inl x7)] [] M1 Q))))) : JE E (dd + 1) n_M_tour 354 [some (Sum.inr 31), some (Sum.inl x1), o2, some (Sum.inl x3), o4, some (Sum.inl x5), o6, some (Sum.inl x7)] [] M Q :=
  JE_steps 1000 [7, 28, 61, 79, 98, 167, 233, 242, 255, 354, 412, 418, 430, 516] (by decide) h
theorem b_M_tour_412 {E : Env0} {d : Nat} (x1 : Int32) (o2 : Option V) (x3 : Int32) (o4 : Option V) (x5 : Int32) (o6 : Option V) (x7 : Int32) {M : Mem} {Q : Int32 → Mem → Prop} (h :
    JE E d n_M_tour 354 [some (Sum.inr 31), some (Sum.inl x1), o2, some (Sum.inl x3), o4, some (Sum.inl x5), o6, some (Sum.inl (x7 + 1))] [] M Q) : JE E (d) n_M_tour 412 [some (Sum.inr 31), some (Sum.inl x1), o2, some (Sum.inl x3), o4, some (Sum.inl x5), o6, some (Sum.inl x7)] [] M Q :=
  JE_steps 1000 [7, 28, 61, 79, 98, 167, 233, 242, 255, 354, 412, 418, 430, 516] (by decide) h
theorem b_M_tour_418 {E : Env0} {d : Nat} (x1 : Int32) (o2 : Option V) (x3 : Int32) (o4 : Option V) (x5 : Int32) (o6 : Option V) (o7 : Option V) {M : Mem} {Q : Int32 → Mem → Prop} (h :
    JE E d n_M_tour 242 [some (Sum.inr 31), some (Sum.inl x1), o2, some (Sum.inl x3), o4, some (Sum.inl (x5 + 1)), o6, o7] [] M Q) : JE E (d) n_M_tour 418 [some (Sum.inr 31), some (Sum.inl x1), o2, some (Sum.inl x3), o4, some (Sum.inl x5), o6, o7] [] M Q :=
  JE_steps 1000 [7, 28, 61, 79, 98, 167, 233, 242, 255, 354, 412, 418, 430, 516] (by decide) h
theorem b_M_tour_430 {E : Env0} {dd : Nat} (x1 : Int32) (o2 : Option V) (x3 : Int32) (o4 : Option V) (x5 : Int32) (x6 : Int32) (o7 : Option V) {M : Mem} {Q : Int32 → Mem → Prop} (h :
    (x1 ≤ x6 →
      (x5 ≤ 0 →
        JE E (dd + 1) n_M_tour 516 [some (Sum.inr 31), some (Sum.inl x1), o2, some (Sum.inl x3), o4, some (Sum.inl x5), some (Sum.inl x3), o7] [] (mset M 31 24 ((M 31 24) + (x5 * (M 31 14)))) Q) ∧
      (¬ x5 ≤ 0 →
        CE E dd n_M_goes [Sum.inr 31, Sum.inl 199, Sum.inl 0] M (fun r1 M1 =>
          JE E (dd + 1) n_M_tour 516 [some (Sum.inr 31), some (Sum.inl x1), o2, some (Sum.inl x3), o4, some (Sum.inl x5), some (Sum.inl x3), o7] [] (mset M1 31 24 ((M1 31 24) + (x5 * (M1 31 14)))) Q))) ∧
    (¬ x1 ≤ x6 →
      vp_in x6 10 ∧
      NZ 16 ∧
      vp_in ((M 42 (Int32.toNatClampNeg x6)) - (M 42 (Int32.toNatClampNeg x6)) / 16 * 16) 10 ∧
      ((M 50 (Int32.toNatClampNeg ((M 42 (Int32.toNatClampNeg x6)) - (M 42 (Int32.toNatClampNeg x6)) / 16 * 16))) = 0 →
        JE E (dd + 1) n_M_tour 430 [some (Sum.inr 31), some (Sum.inl x1), o2, some (Sum.inl x3), o4, some (Sum.inl (x5 + 0)), some (Sum.inl (x6 + 1)), o7] [] M Q) ∧
      (¬ (M 50 (Int32.toNatClampNeg ((M 42 (Int32.toNatClampNeg x6)) - (M 42 (Int32.toNatClampNeg x6)) / 16 * 16))) = 0 →
        CE E dd n_M_kindAt [Sum.inr 31, Sum.inl x6] M (fun r2 M2 =>
          vp_in r2 8 ∧
          ((M2 35 (Int32.toNatClampNeg r2)) = 0 →
            JE E (dd + 1) n_M_tour 430 [some (Sum.inr 31), some (Sum.inl x1), o2, some (Sum.inl x3), o4, some (Sum.inl (x5 + 0)), some (Sum.inl (x6 + 1)), o7] [] M2 Q) ∧
          (¬ (M2 35 (Int32.toNatClampNeg r2)) = 0 →
            JE E (dd + 1) n_M_tour 430 [some (Sum.inr 31), some (Sum.inl x1), o2, some (Sum.inl x3), o4, some (Sum.inl (x5 + 1)), some (Sum.inl (x6 + 1)), o7] [] M2 Q))))) : JE E (dd + 1) n_M_tour 430 [some (Sum.inr 31), some (Sum.inl x1), o2, some (Sum.inl x3), o4, some (Sum.inl x5), some (Sum.inl x6), o7] [] M Q :=
  JE_steps 1000 [7, 28, 61, 79, 98, 167, 233, 242, 255, 354, 412, 418, 430, 516] (by decide) h
theorem b_M_tour_516 {E : Env0} {dd : Nat} (x1 : Int32) (o2 : Option V) (o3 : Option V) (o4 : Option V) (o5 : Option V) (x6 : Int32) (o7 : Option V) {M : Mem} {Q : Int32 → Mem → Prop} (h :
    (x1 ≤ x6 →
      Z01 1 ∧ Q 1 M) ∧
    (¬ x1 ≤ x6 →
      vp_in x6 10 ∧
      NZ 16 ∧
      vp_in ((M 42 (Int32.toNatClampNeg x6)) - (M 42 (Int32.toNatClampNeg x6)) / 16 * 16) 10 ∧
      (¬ (M 50 (Int32.toNatClampNeg ((M 42 (Int32.toNatClampNeg x6)) - (M 42 (Int32.toNatClampNeg x6)) / 16 * 16))) = 0 →
        CE E dd n_M_isBehindMissing [Sum.inr 31, Sum.inl ((M 42 (Int32.toNatClampNeg x6)) - (M 42 (Int32.toNatClampNeg x6)) / 16 * 16)] M (fun r1 M1 =>
          (r1 = 0 →
            vp_in ((M 42 (Int32.toNatClampNeg x6)) - (M 42 (Int32.toNatClampNeg x6)) / 16 * 16) 10 ∧
            vp_in ((M 42 (Int32.toNatClampNeg x6)) - (M 42 (Int32.toNatClampNeg x6)) / 16 * 16) 10 ∧
            CE E dd n_M_goes [Sum.inr 31, Sum.inl (M1 36 (Int32.toNatClampNeg ((M 42 (Int32.toNatClampNeg x6)) - (M 42 (Int32.toNatClampNeg x6)) / 16 * 16))), Sum.inl (M1 37 (Int32.toNatClampNeg ((M 42 (Int32.toNatClampNeg x6)) - (M 42 (Int32.toNatClampNeg x6)) / 16 * 16)))] M1 (fun r2 M2 =>
              vp_in ((M 42 (Int32.toNatClampNeg x6)) - (M 42 (Int32.toNatClampNeg x6)) / 16 * 16) 10 ∧ 
              JE E (dd + 1) n_M_tour 516 [some (Sum.inr 31), some (Sum.inl x1), o2, o3, o4, o5, some (Sum.inl (x6 + 1)), some (Sum.inl ((M 42 (Int32.toNatClampNeg x6)) - (M 42 (Int32.toNatClampNeg x6)) / 16 * 16))] [] (mset (mset M2 31 24 ((M2 31 24) + (M2 31 13))) 48 (Int32.toNatClampNeg ((M 42 (Int32.toNatClampNeg x6)) - (M 42 (Int32.toNatClampNeg x6)) / 16 * 16)) 1) Q)) ∧
          (¬ r1 = 0 →
            vp_in ((M 42 (Int32.toNatClampNeg x6)) - (M 42 (Int32.toNatClampNeg x6)) / 16 * 16) 10 ∧ 
            JE E (dd + 1) n_M_tour 516 [some (Sum.inr 31), some (Sum.inl x1), o2, o3, o4, o5, some (Sum.inl (x6 + 1)), some (Sum.inl ((M 42 (Int32.toNatClampNeg x6)) - (M 42 (Int32.toNatClampNeg x6)) / 16 * 16))] [] (mset M1 48 (Int32.toNatClampNeg ((M 42 (Int32.toNatClampNeg x6)) - (M 42 (Int32.toNatClampNeg x6)) / 16 * 16)) 2) Q))) ∧
      ((M 50 (Int32.toNatClampNeg ((M 42 (Int32.toNatClampNeg x6)) - (M 42 (Int32.toNatClampNeg x6)) / 16 * 16))) = 0 →
        JE E (dd + 1) n_M_tour 516 [some (Sum.inr 31), some (Sum.inl x1), o2, o3, o4, o5, some (Sum.inl (x6 + 1)), some (Sum.inl ((M 42 (Int32.toNatClampNeg x6)) - (M 42 (Int32.toNatClampNeg x6)) / 16 * 16))] [] M Q))) : JE E (dd + 1) n_M_tour 516 [some (Sum.inr 31), some (Sum.inl x1), o2, o3, o4, o5, some (Sum.inl x6), o7] [] M Q :=
  JE_steps 1000 [7, 28, 61, 79, 98, 167, 233, 242, 255, 354, 412, 418, 430, 516] (by decide) h
theorem b_M_run_0 {E : Env0} {dd : Nat}  {M : Mem} {Q : Int32 → Mem → Prop} (h :
    CE E dd n_M_isGood [Sum.inr 31] M (fun r1 M1 =>
      (¬ r1 = 0 →
        ((M1 31 30) = 0 →
          CE E dd n_M_begins0 [Sum.inr 31] M1 (fun r2 M2 =>
            JE E (dd + 1) n_M_run 49 [some (Sum.inr 31), some (Sum.inl 0)] [] (mset (mset (mset (mset M2 31 32 0) 31 33 0) 31 34 0) 31 35 0) Q)) ∧
        (¬ (M1 31 30) = 0 →
          ((M1 31 31) = 0 →
            JE E (dd + 1) n_M_run 80 [some (Sum.inr 31), some (Sum.inl 1)] [] (mset M1 31 36 (-1)) Q) ∧
          (¬ (M1 31 31) = 0 →
            CE E dd n_M_begins0 [Sum.inr 31] M1 (fun r3 M3 =>
              JE E (dd + 1) n_M_run 49 [some (Sum.inr 31), some (Sum.inl 0)] [] (mset (mset (mset (mset M3 31 32 0) 31 33 0) 31 34 0) 31 35 0) Q)))) ∧
      (r1 = 0 →
        Q (-1) M1))) : JE E (dd + 1) n_M_run 0 [some (Sum.inr 31), none] [] M Q :=
  JE_steps 1000 [49, 80] (by decide) h
theorem b_M_run_49 {E : Env0} {d : Nat} (x1 : Int32) {M : Mem} {Q : Int32 → Mem → Prop} (h :
    ((10 : Int32) ≤ x1 →
      Z01 1 ∧
      JE E d n_M_run 80 [some (Sum.inr 31), some (Sum.inl 1)] [] (mset (mset M 31 30 1) 31 36 (-1)) Q) ∧
    (¬ (10 : Int32) ≤ x1 →
      vp_in x1 10 ∧ 
      JE E d n_M_run 49 [some (Sum.inr 31), some (Sum.inl (x1 + 1))] [] (mset M 48 (Int32.toNatClampNeg x1) 0) Q)) : JE E (d) n_M_run 49 [some (Sum.inr 31), some (Sum.inl x1)] [] M Q :=
  JE_steps 1000 [49, 80] (by decide) h
theorem b_M_run_80 {E : Env0} {dd : Nat} (x1 : Int32) {M : Mem} {Q : Int32 → Mem → Prop} (h :
    (x1 = 0 →
      ((M 31 32) < (M 31 16) →
        Z01 0 ∧
        Q (M 31 24) (mset M 31 31 0)) ∧
      (¬ (M 31 32) < (M 31 16) →
        Z01 1 ∧
        Q (M 31 24) (mset M 31 31 1))) ∧
    (¬ x1 = 0 →
      ((M 31 16) ≤ (M 31 32) →
        ((M 31 32) < (M 31 16) →
          Z01 0 ∧
          Q (M 31 24) (mset M 31 31 0)) ∧
        (¬ (M 31 32) < (M 31 16) →
          Z01 1 ∧
          Q (M 31 24) (mset M 31 31 1))) ∧
      (¬ (M 31 16) ≤ (M 31 32) →
        CE E dd n_M_tour [Sum.inr 31] M (fun r1 M1 =>
          JE E (dd + 1) n_M_run 80 [some (Sum.inr 31), some (Sum.inl r1)] [] M1 Q)))) : JE E (dd + 1) n_M_run 80 [some (Sum.inr 31), some (Sum.inl x1)] [] M Q :=
  JE_steps 1000 [49, 80] (by decide) h
theorem b_M_those_0 {E : Env0} {d : Nat} (x1 : Int32) {M : Mem} {Q : Int32 → Mem → Prop} (h :
    JE E d n_M_those 4 [some (Sum.inr 31), some (Sum.inl x1), some (Sum.inl 0), some (Sum.inl 0)] [] M Q) : JE E (d) n_M_those 0 [some (Sum.inr 31), some (Sum.inl x1), none, none] [] M Q :=
  JE_steps 1000 [4] (by decide) h
theorem b_M_those_4 {E : Env0} {d : Nat} (x1 : Int32) (x2 : Int32) (x3 : Int32) {M : Mem} {Q : Int32 → Mem → Prop} (h :
    ((M 31 4) ≤ x3 →
      Q x2 M) ∧
    (¬ (M 31 4) ≤ x3 →
      vp_in x3 10 ∧
      (¬ (M 48 (Int32.toNatClampNeg x3)) = x1 →
        JE E d n_M_those 4 [some (Sum.inr 31), some (Sum.inl x1), some (Sum.inl (x2 + 0)), some (Sum.inl (x3 + 1))] [] M Q) ∧
      ((M 48 (Int32.toNatClampNeg x3)) = x1 →
        JE E d n_M_those 4 [some (Sum.inr 31), some (Sum.inl x1), some (Sum.inl (x2 + 1)), some (Sum.inl (x3 + 1))] [] M Q))) : JE E (d) n_M_those 4 [some (Sum.inr 31), some (Sum.inl x1), some (Sum.inl x2), some (Sum.inl x3)] [] M Q :=
  JE_steps 1000 [4] (by decide) h
theorem b_M_told_0 {E : Env0} {dd : Nat} (x1 : Int32) {M : Mem} {Q : Int32 → Mem → Prop} (h :
    (¬ (M 31 30) = 0 →
      (x1 = 0 →
        Q (M 31 24) M) ∧ (¬ x1 = 0 →
      (x1 = 1 →
        Q (M 31 33) M) ∧ (¬ x1 = 1 →
      (x1 = 2 →
        Q (M 31 34) M) ∧ (¬ x1 = 2 →
      (x1 = 3 →
        CE E dd n_M_those [Sum.inr 31, Sum.inl 1] M (fun r1 M1 =>
          Q r1 M1)) ∧ (¬ x1 = 3 →
      (x1 = 4 →
        CE E dd n_M_those [Sum.inr 31, Sum.inl 2] M (fun r2 M2 =>
          Q r2 M2)) ∧ (¬ x1 = 4 →
      (x1 = 5 →
        Q (M 31 36) M) ∧ (¬ x1 = 5 →
      (x1 = 6 →
        Q (M 31 35) M) ∧ (¬ x1 = 6 →
      (x1 = 7 →
        ((M 31 31) = 0 →
          Q 0 M) ∧
        (¬ (M 31 31) = 0 →
          Q 1 M)) ∧ (¬ x1 = 7 →
        Q (-1) M))))))))) ∧
    ((M 31 30) = 0 →
      Q (-1) M)) : JE E (dd + 1) n_M_told 0 [some (Sum.inr 31), some (Sum.inl x1)] [] M Q :=
  JE_steps 1000 [] (by decide) h
theorem b_M_state_0 {E : Env0} {dd : Nat} (x1 : Int32) {M : Mem} {Q : Int32 → Mem → Prop} (h :
    ((M 31 30) = 0 →
      Q (-1) M) ∧
    (¬ (M 31 30) = 0 →
      CE E dd n_M_isPlace [Sum.inr 31, Sum.inl x1] M (fun r1 M1 =>
        (r1 = 0 →
          Q (-1) M1) ∧
        (¬ r1 = 0 →
          vp_in x1 10 ∧
          Q (M1 48 (Int32.toNatClampNeg x1)) M1)))) : JE E (dd + 1) n_M_state 0 [some (Sum.inr 31), some (Sum.inl x1)] [] M Q :=
  JE_steps 1000 [] (by decide) h
theorem b_M_slot_0 {E : Env0} {dd : Nat} (x1 : Int32) (x2 : Int32) {M : Mem} {Q : Int32 → Mem → Prop} (h :
    CE E dd n_M_lies [Sum.inl x1, Sum.inl 0, Sum.inl 7] M (fun r1 M1 =>
      (¬ r1 = 0 →
        (¬ x2 = 0 →
          (¬ x2 = (1 : Int32) →
            Q (-1) M1) ∧
          (x2 = (1 : Int32) →
            vp_in x1 8 ∧
            Q (M1 41 (Int32.toNatClampNeg x1)) M1)) ∧
        (x2 = 0 →
          vp_in x1 8 ∧
          Q (M1 40 (Int32.toNatClampNeg x1)) M1)) ∧
      (r1 = 0 →
        Q (-1) M1))) : JE E (dd + 1) n_M_slot 0 [some (Sum.inr 31), some (Sum.inl x1), some (Sum.inl x2)] [] M Q :=
  JE_steps 1000 [] (by decide) h
theorem b_M_count_0 {E : Env0} {d : Nat} (x1 : Int32) {M : Mem} {Q : Int32 → Mem → Prop} (h :
    (x1 = 0 →
      Q (M 31 4) M) ∧ (¬ x1 = 0 →
    (x1 = 1 →
      Q (M 31 16) M) ∧ (¬ x1 = 1 →
    (x1 = 2 →
      JE E d n_M_count 48 [some (Sum.inr 31), some (Sum.inl x1), some (Sum.inl 0), some (Sum.inl 0), none] [] M Q) ∧ (¬ x1 = 2 →
    (x1 = 3 →
      Q (M 31 11) M) ∧ (¬ x1 = 3 →
    (x1 = 4 →
      JE E d n_M_count 90 [some (Sum.inr 31), some (Sum.inl x1), some (Sum.inl 0), some (Sum.inl 0), none] [] M Q) ∧ (¬ x1 = 4 →
      Q (-1) M)))))) : JE E (d) n_M_count 0 [some (Sum.inr 31), some (Sum.inl x1), none, none, none] [] M Q :=
  JE_steps 1000 [48, 90, 101] (by decide) h
theorem b_M_count_48 {E : Env0} {d : Nat} (o1 : Option V) (x2 : Int32) (x3 : Int32) (o4 : Option V) {M : Mem} {Q : Int32 → Mem → Prop} (h :
    ((M 31 16) ≤ x3 →
      Q x2 M) ∧
    (¬ (M 31 16) ≤ x3 →
      vp_in x3 10 ∧
      ((M 42 (Int32.toNatClampNeg x3)) < (16 : Int32) →
        JE E d n_M_count 48 [some (Sum.inr 31), o1, some (Sum.inl (x2 + 0)), some (Sum.inl (x3 + 1)), o4] [] M Q) ∧
      (¬ (M 42 (Int32.toNatClampNeg x3)) < (16 : Int32) →
        JE E d n_M_count 48 [some (Sum.inr 31), o1, some (Sum.inl (x2 + 1)), some (Sum.inl (x3 + 1)), o4] [] M Q))) : JE E (d) n_M_count 48 [some (Sum.inr 31), o1, some (Sum.inl x2), some (Sum.inl x3), o4] [] M Q :=
  JE_steps 1000 [48, 90, 101] (by decide) h
theorem b_M_count_90 {E : Env0} {d : Nat} (o1 : Option V) (x2 : Int32) (x3 : Int32) (o4 : Option V) {M : Mem} {Q : Int32 → Mem → Prop} (h :
    ((M 31 4) ≤ x3 →
      Q x2 M) ∧
    (¬ (M 31 4) ≤ x3 →
      JE E d n_M_count 101 [some (Sum.inr 31), o1, some (Sum.inl x2), some (Sum.inl x3), some (Sum.inl 0)] [] M Q)) : JE E (d) n_M_count 90 [some (Sum.inr 31), o1, some (Sum.inl x2), some (Sum.inl x3), o4] [] M Q :=
  JE_steps 1000 [48, 90, 101] (by decide) h
theorem b_M_count_101 {E : Env0} {dd : Nat} (o1 : Option V) (x2 : Int32) (x3 : Int32) (x4 : Int32) {M : Mem} {Q : Int32 → Mem → Prop} (h :
    ((M 31 4) ≤ x4 →
      JE E (dd + 1) n_M_count 90 [some (Sum.inr 31), o1, some (Sum.inl x2), some (Sum.inl (x3 + 1)), some (Sum.inl x4)] [] M Q) ∧
    (¬ (M 31 4) ≤ x4 →
      (x3 = x4 →
        JE E (dd + 1) n_M_count 101 [some (Sum.inr 31), o1, some (Sum.inl (x2 + 0)), some (Sum.inl x3), some (Sum.inl (x4 + 1))] [] M Q) ∧
      (¬ x3 = x4 →
        CE E dd n_M_isAhead [Sum.inr 31, Sum.inl x3, Sum.inl x4] M (fun r1 M1 =>
          (r1 = 0 →
            JE E (dd + 1) n_M_count 101 [some (Sum.inr 31), o1, some (Sum.inl (x2 + 0)), some (Sum.inl x3), some (Sum.inl (x4 + 1))] [] M1 Q) ∧
          (¬ r1 = 0 →
            JE E (dd + 1) n_M_count 101 [some (Sum.inr 31), o1, some (Sum.inl (x2 + 1)), some (Sum.inl x3), some (Sum.inl (x4 + 1))] [] M1 Q))))) : JE E (dd + 1) n_M_count 101 [some (Sum.inr 31), o1, some (Sum.inl x2), some (Sum.inl x3), some (Sum.inl x4)] [] M Q :=
  JE_steps 1000 [48, 90, 101] (by decide) h
