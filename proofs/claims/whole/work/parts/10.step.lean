/-! The whole step, the steps, and what a method's body owes. -/
section MM
variable (l : Launch) (D : va_G) (cI cZ : ClassId) (a : Nat → Nat)
variable {p : Program} {e : Env} {R : Room} {s : State} {m : MethodId} {args : Array Value} {below : List Frame} {meth : Method} {c : Code} {A : Nat → Prop} {cells slots : Nat} {Qs : State → Prop}
variable {mi SL : Nat} {X0 : Nat → Int32}
theorem shp1000 {k : Nat} {sh : Shp} (h : shp k = some sh) : k ≠ 1000 := by
  intro e
  subst e
  unfold shp at h
  rw [nth_eq] at h
  exact absurd h (by simp [shapes])
theorem take_drop_rev (st : List V) (y : Nat) : (st.take y).reverse.reverse ++ st.drop y = st := by
  rw [List.reverse_reverse, List.take_append_drop]
set_option maxHeartbeats 4000000 in
theorem step_sound (d : Nat) (hc : Cx D cI cZ a mi SL X0 p R s m args c A cells slots) (CJ : Nat → List V → Mem → (Int32 → Mem → Prop) → Prop) (RQ : Int32 → Mem → Prop) (K : Nat → Lc → List V → Mem → Prop)
    (hCJ : ∀ x vs M Q, CJ x vs M Q → CM l D cI cZ a d x vs M Q ∧ ((rmd d).frames + 1 ≤ R.frames ∧ 39 + (rmd d).locals ≤ R.locals))
    (hK : ∀ pc L st M, K pc L st M → JW l D cI cZ a X0 p e R s m args below meth c A cells slots Qs (mMax mi) pc L st M)
    (hI : ∀ pc L z M, decode (mBytes mi) pc = .ok (.ireturn, 1) → (mRet mi = some .int ∨ mRet mi = some .boolean ∧ (z = 0 ∨ z = 1)) → RQ z M → JW l D cI cZ a X0 p e R s m args below meth c A cells slots Qs (mMax mi) pc L [.inl z] M)
    (hV : ∀ pc L M, decode (mBytes mi) pc = .ok (.return_, 1) → mRet mi = none → RQ 0 M → JW l D cI cZ a X0 p e R s m args below meth c A cells slots Qs (mMax mi) pc L [] M)
    {pc : Nat} {E : Ent} {L : Lc} {st : List V} {M : Mem} (hd : decode (mBytes mi) pc = .ok (E.1, E.2.1)) (hs : sideOK (mMax mi) (mOwn mi) pc E = true)
    (h : stepJ SL CJ RQ K (mRet mi) pc E L st M) : JW l D cI cZ a X0 p e R s m args below meth c A cells slots Qs (mMax mi) pc L st M := by
  obtain ⟨hx, hb, hml, hown, hts, hnw, hKK, hA, hscr, hR1, hR2, hcel, hslo⟩ := id hc
  obtain ⟨ins, len, x, y, cc⟩ := E
  dsimp only at hd
  have len1 : Nat.beq len 1 = true → len = 1 := Nat.eq_of_beq_eq_true
  have len2 : Nat.beq len 2 = true → len = 2 := Nat.eq_of_beq_eq_true
  have len3 : Nat.beq len 3 = true → len = 3 := Nat.eq_of_beq_eq_true
  cases ins
  case iconst n =>
    simp only [sideOK, Bool.and_eq_true, decide_eq_true_eq] at hs
    cases len1 hs.1
    exact fun H locs ls hP hD hS hX hl => lv_iconst hx hb hd hs.2 (hK _ _ _ _ h H locs ls hP hD hS hX hl)
  case bipush n =>
    simp only [sideOK, Bool.and_eq_true, decide_eq_true_eq] at hs
    cases len2 hs.1
    exact fun H locs ls hP hD hS hX hl => lv_bipush hx hb hd hs.2 (hK _ _ _ _ h H locs ls hP hD hS hX hl)
  case sipush n =>
    simp only [sideOK, Bool.and_eq_true, decide_eq_true_eq] at hs
    cases len3 hs.1
    exact fun H locs ls hP hD hS hX hl => lv_sipush hx hb hd hs.2 (hK _ _ _ _ h H locs ls hP hD hS hX hl)
  case ldc i =>
    simp only [sideOK, Bool.and_eq_true, decide_eq_true_eq] at hs
    cases len2 hs.1
    obtain ⟨k, hk⟩ := zipAll_mem cl_ok _ hs.2
    exact fun H locs ls hP hD hS hX hl => lv_ldc hx hb hown (hts _ (gw_at hk)) hd (hK _ _ _ _ h H locs ls hP hD hS hX hl)
  case ldc_w i =>
    simp only [sideOK, Bool.and_eq_true, decide_eq_true_eq] at hs
    cases len3 hs.1
    obtain ⟨k, hk⟩ := zipAll_mem cl_ok _ hs.2
    exact fun H locs ls hP hD hS hX hl => lv_ldcw hx hb hown (hts _ (gw_at hk)) hd (hK _ _ _ _ h H locs ls hP hD hS hX hl)
  case iload_n n =>
    simp only [sideOK, Bool.and_eq_true] at hs
    cases len1 hs.1
    simp only [stepJ] at h
    split at h
    · next z hz => exact fun H locs ls hP hD hS hX hl => lv_iload_n hx hb hd (Nat.eq_of_beq_eq_true hs.2) (lvl_at hl hz) (hK _ _ _ _ h H locs ls hP hD hS hX hl)
    · exact h.elim
  case iload n =>
    simp only [sideOK, Bool.and_eq_true] at hs
    cases len2 hs.1
    cases Nat.eq_of_beq_eq_true hs.2
    simp only [stepJ] at h
    split at h
    · next z hz => exact fun H locs ls hP hD hS hX hl => lv_iload hx hb hd (lvl_at hl hz) (hK _ _ _ _ h H locs ls hP hD hS hX hl)
    · exact h.elim
  case aload_n n =>
    simp only [sideOK, Bool.and_eq_true] at hs
    cases len1 hs.1
    simp only [stepJ] at h
    split at h
    · next z hz => exact fun H locs ls hP hD hS hX hl => lv_aload_n hx hb hd (Nat.eq_of_beq_eq_true hs.2) (lvl_at hl hz) (hK _ _ _ _ h H locs ls hP hD hS hX hl)
    · exact h.elim
  case aload n =>
    simp only [sideOK, Bool.and_eq_true] at hs
    cases len2 hs.1
    cases Nat.eq_of_beq_eq_true hs.2
    simp only [stepJ] at h
    split at h
    · next z hz => exact fun H locs ls hP hD hS hX hl => lv_aload hx hb hd (lvl_at hl hz) (hK _ _ _ _ h H locs ls hP hD hS hX hl)
    · exact h.elim
  case istore_n n =>
    simp only [sideOK, Bool.and_eq_true] at hs
    cases len1 hs.1
    simp only [stepJ, ifz] at h
    split at h
    · exact fun H locs ls hP hD hS hX hl => lv_istore_n hx hb hd (Nat.eq_of_beq_eq_true hs.2.1) hl (Nat.le_of_ble_eq_true hs.2.2) rfl (fun ls' hl' => hK _ _ _ _ h H locs ls' hP hD hS hX (lvl_set hl'))
    · exact h.elim
  case istore n =>
    simp only [sideOK, Bool.and_eq_true] at hs
    cases len2 hs.1
    cases Nat.eq_of_beq_eq_true hs.2.1
    simp only [stepJ, ifz] at h
    split at h
    · exact fun H locs ls hP hD hS hX hl => lv_istore hx hb hd hl (Nat.le_of_ble_eq_true hs.2.2) rfl (fun ls' hl' => hK _ _ _ _ h H locs ls' hP hD hS hX (lvl_set hl'))
    · exact h.elim
  case iinc i n =>
    simp only [sideOK, Bool.and_eq_true, decide_eq_true_eq] at hs
    cases len3 hs.1
    cases Nat.eq_of_beq_eq_true hs.2.1
    simp only [stepJ] at h
    split at h
    · next z hz =>
      intro H locs ls hP hD hS hX hl
      obtain ⟨k, hk⟩ := List.getElem?_of_mem ((lvl_mem a L 0 (x, vv a (.inl z))).mpr ⟨x, _, hz, by simp⟩)
      exact lv_iinc hx hb hd hl hk (by rw [hs.2.2.2]) (Nat.le_of_ble_eq_true hs.2.2.1) rfl (fun ls' hl' => hK _ _ _ _ h H locs ls' hP hD hS hX (lvl_set hl'))
    · exact h.elim
  case iadd =>
    cases len1 hs
    simp only [stepJ, ifzz] at h
    split at h
    · exact fun H locs ls hP hD hS hX hl => lv_iadd hx hb hd (hK _ _ _ _ h H locs ls hP hD hS hX hl)
    · exact h.elim
  case isub =>
    cases len1 hs
    simp only [stepJ, ifzz] at h
    split at h
    · exact fun H locs ls hP hD hS hX hl => lv_isub hx hb hd (hK _ _ _ _ h H locs ls hP hD hS hX hl)
    · exact h.elim
  case imul =>
    cases len1 hs
    simp only [stepJ, ifzz] at h
    split at h
    · exact fun H locs ls hP hD hS hX hl => lv_imul hx hb hd (hK _ _ _ _ h H locs ls hP hD hS hX hl)
    · exact h.elim
  case iand =>
    cases len1 hs
    simp only [stepJ, ifzz] at h
    split at h
    · exact fun H locs ls hP hD hS hX hl => lv_iand hx hb hd (hK _ _ _ _ h H locs ls hP hD hS hX hl)
    · exact h.elim
  case ior =>
    cases len1 hs
    simp only [stepJ, ifzz] at h
    split at h
    · exact fun H locs ls hP hD hS hX hl => lv_ior hx hb hd (hK _ _ _ _ h H locs ls hP hD hS hX hl)
    · exact h.elim
  case ixor =>
    cases len1 hs
    simp only [stepJ, ifzz] at h
    split at h
    · exact fun H locs ls hP hD hS hX hl => lv_ixor hx hb hd (hK _ _ _ _ h H locs ls hP hD hS hX hl)
    · exact h.elim
  case ishl =>
    cases len1 hs
    simp only [stepJ, ifzz] at h
    split at h
    · exact fun H locs ls hP hD hS hX hl => lv_ishl hx hb hd (hK _ _ _ _ h H locs ls hP hD hS hX hl)
    · exact h.elim
  case ishr =>
    cases len1 hs
    simp only [stepJ, ifzz] at h
    split at h
    · exact fun H locs ls hP hD hS hX hl => lv_ishr hx hb hd (hK _ _ _ _ h H locs ls hP hD hS hX hl)
    · exact h.elim
  case iushr =>
    cases len1 hs
    simp only [stepJ, ifzz] at h
    split at h
    · exact fun H locs ls hP hD hS hX hl => lv_iushr hx hb hd rfl (hK _ _ _ _ h H locs ls hP hD hS hX hl)
    · exact h.elim
  case irem =>
    cases len1 hs
    simp only [stepJ, ifzz] at h
    split at h
    · exact fun H locs ls hP hD hS hX hl => lv_irem hx hb hd h.1 (hK _ _ _ _ h.2 H locs ls hP hD hS hX hl)
    · exact h.elim
  case ineg =>
    cases len1 hs
    simp only [stepJ, ifz] at h
    split at h
    · exact fun H locs ls hP hD hS hX hl => lv_ineg hx hb hd (hK _ _ _ _ h H locs ls hP hD hS hX hl)
    · exact h.elim
  case ifCond cd o =>
    simp only [sideOK, Bool.and_eq_true, decide_eq_true_eq] at hs
    cases len3 hs.1
    cases cd <;> (simp only [stepJ, ifz] at h; split at h)
    · exact fun H locs ls hP hD hS hX hl => lv_if_eq hx hb hd hs.2 (fun q => hK _ _ _ _ (h.1 q) H locs ls hP hD hS hX hl) (fun q => hK _ _ _ _ (h.2 q) H locs ls hP hD hS hX hl)
    · exact h.elim
    · exact fun H locs ls hP hD hS hX hl => lv_if_ne hx hb hd hs.2 (fun q => hK _ _ _ _ (h.1 q) H locs ls hP hD hS hX hl) (fun q => hK _ _ _ _ (h.2 q) H locs ls hP hD hS hX hl)
    · exact h.elim
    · exact fun H locs ls hP hD hS hX hl => lv_if_lt hx hb hd hs.2 (fun q => hK _ _ _ _ (h.1 q) H locs ls hP hD hS hX hl) (fun q => hK _ _ _ _ (h.2 q) H locs ls hP hD hS hX hl)
    · exact h.elim
    · exact fun H locs ls hP hD hS hX hl => lv_if_ge hx hb hd hs.2 (fun q => hK _ _ _ _ (h.1 q) H locs ls hP hD hS hX hl) (fun q => hK _ _ _ _ (h.2 q) H locs ls hP hD hS hX hl)
    · exact h.elim
    · exact fun H locs ls hP hD hS hX hl => lv_if_gt hx hb hd hs.2 (fun q => hK _ _ _ _ (h.1 q) H locs ls hP hD hS hX hl) (fun q => hK _ _ _ _ (h.2 q) H locs ls hP hD hS hX hl)
    · exact h.elim
    · exact fun H locs ls hP hD hS hX hl => lv_if_le hx hb hd hs.2 (fun q => hK _ _ _ _ (h.1 q) H locs ls hP hD hS hX hl) (fun q => hK _ _ _ _ (h.2 q) H locs ls hP hD hS hX hl)
    · exact h.elim
  case if_icmp cd o =>
    simp only [sideOK, Bool.and_eq_true, decide_eq_true_eq] at hs
    cases len3 hs.1
    cases cd <;> (simp only [stepJ, ifzz] at h; split at h)
    · exact fun H locs ls hP hD hS hX hl => lv_icmp_eq hx hb hd hs.2 (fun q => hK _ _ _ _ (h.1 q) H locs ls hP hD hS hX hl) (fun q => hK _ _ _ _ (h.2 q) H locs ls hP hD hS hX hl)
    · exact h.elim
    · exact fun H locs ls hP hD hS hX hl => lv_icmp_ne hx hb hd hs.2 (fun q => hK _ _ _ _ (h.1 q) H locs ls hP hD hS hX hl) (fun q => hK _ _ _ _ (h.2 q) H locs ls hP hD hS hX hl)
    · exact h.elim
    · exact fun H locs ls hP hD hS hX hl => lv_icmp_lt hx hb hd hs.2 (fun q => hK _ _ _ _ (h.1 q) H locs ls hP hD hS hX hl) (fun q => hK _ _ _ _ (h.2 q) H locs ls hP hD hS hX hl)
    · exact h.elim
    · exact fun H locs ls hP hD hS hX hl => lv_icmp_ge hx hb hd hs.2 (fun q => hK _ _ _ _ (h.1 q) H locs ls hP hD hS hX hl) (fun q => hK _ _ _ _ (h.2 q) H locs ls hP hD hS hX hl)
    · exact h.elim
    · exact fun H locs ls hP hD hS hX hl => lv_icmp_gt hx hb hd hs.2 (fun q => hK _ _ _ _ (h.1 q) H locs ls hP hD hS hX hl) (fun q => hK _ _ _ _ (h.2 q) H locs ls hP hD hS hX hl)
    · exact h.elim
    · exact fun H locs ls hP hD hS hX hl => lv_icmp_le hx hb hd hs.2 (fun q => hK _ _ _ _ (h.1 q) H locs ls hP hD hS hX hl) (fun q => hK _ _ _ _ (h.2 q) H locs ls hP hD hS hX hl)
    · exact h.elim
  case goto o =>
    simp only [sideOK, Bool.and_eq_true, decide_eq_true_eq] at hs
    cases len3 hs.1
    exact fun H locs ls hP hD hS hX hl => lv_goto hx hb hd hs.2 (hK _ _ _ _ h H locs ls hP hD hS hX hl)
  case getfield i =>
    simp only [sideOK, Bool.and_eq_true] at hs
    cases len3 hs.1
    have hf := inF_mem hs.2
    simp only [stepJ] at h
    split at h
    · next k r =>
      split at h
      · next ci ts hsh =>
        split at h
        · next hci =>
          cases Nat.eq_of_beq_eq_true hci
          split at h
          · next ht => exact so_get l D cI cZ a hc hd hf hsh ht rfl (hK _ _ _ _ h)
          · next ht => exact so_get l D cI cZ a hc hd hf hsh ht rfl (hK _ _ _ _ h)
          · next q ht => exact so_get l D cI cZ a hc hd hf hsh ht rfl (hK _ _ _ _ h)
          · exact h.elim
        · exact h.elim
      · exact h.elim
    · exact h.elim
  case putfield i =>
    simp only [sideOK, Bool.and_eq_true] at hs
    cases len3 hs.1
    have hf := inF_mem hs.2
    simp only [stepJ] at h
    split at h
    · next z k r =>
      split at h
      · next ci ts hsh =>
        split at h
        · next hci =>
          cases Nat.eq_of_beq_eq_true hci
          split at h
          · next ht => exact so_put l D cI cZ a hc hd hf hsh ht (Or.inl rfl) (shp1000 hsh) (hK _ _ _ _ h)
          · next ht => exact so_put l D cI cZ a hc hd hf hsh ht (Or.inr ⟨rfl, h.1⟩) (shp1000 hsh) (hK _ _ _ _ h.2)
          · exact h.elim
        · exact h.elim
      · exact h.elim
    · exact h.elim
  case iaload =>
    cases len1 hs
    simp only [stepJ] at h
    split at h
    · next i k r =>
      split at h
      · next n hsh => exact so_aldI l D cI cZ a hc hd hsh h.1 (hK _ _ _ _ h.2)
      · split at h
        · next hk =>
          cases Nat.eq_of_beq_eq_true hk
          exact so_scr l D cI cZ a hc hd h.1 (hK _ _ _ _ h.2)
        · exact h.elim
      · exact h.elim
    · exact h.elim
  case baload =>
    cases len1 hs
    simp only [stepJ] at h
    split at h
    · next i k r =>
      split at h
      · next n hsh => exact so_aldZ l D cI cZ a hc hd hsh h.1 (hK _ _ _ _ h.2)
      · exact h.elim
    · exact h.elim
  case iastore =>
    cases len1 hs
    simp only [stepJ] at h
    split at h
    · next z i k r =>
      split at h
      · next n hsh => exact so_astI l D cI cZ a hc hd hsh h.1 (shp1000 hsh) (hK _ _ _ _ h.2)
      · exact h.elim
    · exact h.elim
  case bastore =>
    cases len1 hs
    simp only [stepJ] at h
    split at h
    · next z i k r =>
      split at h
      · next n hsh => exact so_astZ l D cI cZ a hc hd hsh h.1 h.2.1 (shp1000 hsh) (hK _ _ _ _ h.2.2)
      · exact h.elim
    · exact h.elim
  case arraylength =>
    cases len1 hs
    simp only [stepJ] at h
    split at h
    · next k r =>
      split at h
      · next n b hsh => exact so_len l D cI cZ a hc hd hsh (hK _ _ _ _ h)
      · split at h
        · next hk =>
          cases Nat.eq_of_beq_eq_true hk
          exact so_slen l D cI cZ a hc h.1 hd (hK _ _ _ _ h.2)
        · exact h.elim
      · exact h.elim
    · exact h.elim
  case invokestatic i =>
    simp only [sideOK, Bool.and_eq_true] at hs
    cases len3 hs.1
    obtain ⟨bn, hl⟩ := inM_mem hs.2.1
    obtain ⟨hx134, hlaw⟩ := lnk_get hl
    simp only [stepJ] at h
    split at h
    · next hm =>
      split at h
      · next h8 =>
        have hlk : Cond.methodLink (cName (mOwn mi)) i (mName x) ∈ gw := by
          rcases lk_get hl with ⟨-, hlk⟩ | ⟨hbn, -, -⟩
          · exact hlk
          · subst hbn
            have h0 := nst_get hl
            rw [show isMath x = true from hm] at h0
            cases h0
        have h8' : st.length ≤ 8 := Nat.le_of_ble_eq_true h8
        split at h
        · next hxa =>
          cases Nat.eq_of_beq_eq_true hxa
          rw [mn_abs] at hlk
          simp only [ifz] at h
          split at h
          · next z r => exact fun H locs ls hP hD hS hX hl => va_mabs hx hb (by rw [hml]; exact hl.1.symm) hown (hts _ hlk) (hts _ mm_abs) (hts _ mi_math) (hts _ mc_abs) hR1 (by rw [vv_sum]; simp at h8'; omega) hcel hslo hd (hK _ _ _ _ h H locs ls hP hD hS hX hl)
          · exact h.elim
        · split at h
          · next hxa =>
            cases Nat.eq_of_beq_eq_true hxa
            rw [mn_max] at hlk
            simp only [ifzz] at h
            split at h
            · next z r => exact fun H locs ls hP hD hS hX hl => va_mmax hx hb (by rw [hml]; exact hl.1.symm) hown (hts _ hlk) (hts _ mm_max) (hts _ mi_math) (hts _ mc_max) hR1 (by rw [vv_sum]; simp at h8'; omega) hcel hslo hd (hK _ _ _ _ h H locs ls hP hD hS hX hl)
            · exact h.elim
          · split at h
            · next hxa =>
              cases Nat.eq_of_beq_eq_true hxa
              rw [mn_min] at hlk
              simp only [ifzz] at h
              split at h
              · next z r => exact fun H locs ls hP hD hS hX hl => va_mmin hx hb (by rw [hml]; exact hl.1.symm) hown (hts _ hlk) (hts _ mm_min) (hts _ mi_math) (hts _ mc_min) hR1 (by rw [vv_sum]; simp at h8'; omega) hcel hslo hd (hK _ _ _ _ h H locs ls hP hD hS hX hl)
              · exact h.elim
            · exact h.elim
      · exact h.elim
    · next hm =>
      split at h
      · next hle =>
        simp only [Bool.and_eq_true] at hle
        obtain ⟨h1, h2⟩ := hCJ _ _ _ _ h
        have hlen : (st.take y).reverse.length = mArgs x := by
          rw [List.length_reverse, List.length_take, Nat.eq_of_beq_eq_true hs.2.2.2]
          exact Nat.min_eq_left (Nat.le_of_ble_eq_true hle.1)
        have hr8 : (st.drop y).length ≤ 8 := by
          rw [List.length_drop]
          exact Nat.le_of_ble_eq_true hle.2
        have := so_callS l D cI cZ a (n := 0) hc h2 (L := L) (As := (st.take y).reverse) (r := st.drop y) hd hx134 hm hlaw (cw_all x hx134 hlaw) hl hs.2.2.1 hlen hr8 h1 (fun z M' q => hK _ _ _ _ q)
        rw [take_drop_rev] at this
        exact this
      · exact h.elim
  case invokevirtual i =>
    simp only [sideOK, Bool.and_eq_true, Bool.not_eq_true'] at hs
    cases len3 hs.1
    obtain ⟨bn, hl⟩ := inM_mem hs.2.1
    obtain ⟨hx134, hlaw⟩ := lnk_get hl
    simp only [stepJ] at h
    split at h
    · next k rest hdr =>
      split at h
      · next ci ts hsh =>
        split at h
        · next hle =>
          simp only [Bool.and_eq_true] at hle
          cases Nat.eq_of_beq_eq_true hle.1
          obtain ⟨h1, h2⟩ := hCJ _ _ _ _ h
          have hlen : (st.take y).reverse.length = mArgs x := by
            rw [List.length_reverse, List.length_take, Nat.eq_of_beq_eq_true hs.2.2.2]
            exact Nat.min_eq_left (Nat.le_of_ble_eq_true hle.2.1)
          have hm : isMath x = false := by
            cases hq : isMath x with
            | false => rfl
            | true =>
              have h12 : mOwn x = 12 := Nat.eq_of_beq_eq_true hq
              rw [h12] at hsh
              obtain ⟨r, hr, -⟩ := sh_get hsh
              exact absurd (show (none : Option vw_C) = some r from hr) (fun q => by cases q)
          have := so_callV l D cI cZ a (n := 0) hc h2 (L := L) (As := (st.take y).reverse) (r := rest) hd hx134 hm hlaw (cw_all x hx134 hlaw) hl hs.2.2.1 hlen hsh (Nat.le_of_ble_eq_true hle.2.2) h1 (fun z M' q => hK _ _ _ _ q)
          rw [← hdr, take_drop_rev] at this
          exact this
        · exact h.elim
      · exact h.elim
    · exact h.elim
  case ireturn =>
    cases len1 hs
    simp only [stepJ] at h
    split at h
    · split at h
      · next hz => exact hI _ _ _ _ hd (Or.inr ⟨hz, h.1⟩) h.2
      · next hz => exact hI _ _ _ _ hd (Or.inl hz) h
      · exact h.elim
    · exact h.elim
  case return_ =>
    cases len1 hs
    simp only [stepJ] at h
    split at h
    · split at h
      · next hz => exact hV _ _ _ hd hz h
      · exact h.elim
    · exact h.elim
  case dup =>
    cases len1 hs
    simp only [stepJ] at h
    split at h
    · exact fun H locs ls hP hD hS hX hl => lv_dup hx hb hd (vv_cat a _) (hK _ _ _ _ h H locs ls hP hD hS hX hl)
    · exact h.elim
  case dup2 =>
    cases len1 hs
    simp only [stepJ] at h
    split at h
    · exact fun H locs ls hP hD hS hX hl => lv_dup2_11 hx hb hd (vv_cat a _) (vv_cat a _) (hK _ _ _ _ h H locs ls hP hD hS hX hl)
    · exact h.elim
  case tableswitch df lo hi offs =>
    simp only [sideOK] at hs
    simp only [stepJ, ifz] at h
    split at h
    · next z r =>
      split at h
      · next tb dd hsw =>
        rw [hsw] at hs
        simp only [Bool.and_eq_true, decide_eq_true_eq] at hs
        obtain ⟨g1, g2⟩ := swOK_get hs.2.1
        rcases sw_find h with ⟨j, t, h1, h2⟩ | ⟨h1, h2⟩
        · obtain ⟨k1, o, k2, k3⟩ := g2 j z t h1
          have hj : j < tb.length := (List.getElem?_eq_some_iff.mp h1).1
          have e1 : (z.toInt - lo).toNat = j := by omega
          exact fun H locs ls hP hD hS hX hl => lv_tableIn hx hb hd (by omega) (by have := hs.2.2; omega) (off := o) (by rw [e1, ← Array.getElem?_toList]; exact k2) k3 (hK _ _ _ _ h2 H locs ls hP hD hS hX hl)
        · refine fun H locs ls hP hD hS hX hl => lv_tableOut hx hb hd ?_ hs.1 (hK _ _ _ _ h2 H locs ls hP hD hS hX hl)
          by_cases q1 : z.toInt < lo
          · exact Or.inl q1
          by_cases q2 : hi < z.toInt
          · exact Or.inr q2
          exfalso
          have hh := hs.2.2
          have hj : (z.toInt - lo).toNat < tb.length := by omega
          have hg := List.getElem?_eq_getElem hj
          obtain ⟨ct, ht⟩ : ∃ ct, ct = tb[(z.toInt - lo).toNat] := ⟨_, rfl⟩
          rw [← ht] at hg
          obtain ⟨cv, tv⟩ := ct
          obtain ⟨k1, -⟩ := g2 _ cv tv hg
          exact h1 _ cv tv hg (Int32.toInt_inj.mp (by omega))
      · exact h.elim
    · exact h.elim
  case lookupswitch df ps =>
    simp only [sideOK] at hs
    simp only [stepJ, ifz] at h
    split at h
    · next z r =>
      split at h
      · next tb dd hsw =>
        rw [hsw] at hs
        simp only [Bool.and_eq_true, decide_eq_true_eq] at hs
        obtain ⟨t, k1, k2⟩ := lk_find hs.1 hs.2.1 h
        exact fun H locs ls hP hD hS hX hl => lv_lookup hx hb hd hs.2.2 rfl k1 (hK _ _ _ _ k2 H locs ls hP hD hS hX hl)
      · exact h.elim
    · exact h.elim
  all_goals exact h.elim
end MM
