noncomputable def b_X1_needsAsPicked_7 (o0 : Nat) (o1 : Nat) (I : MI) (s : Int32 × Int32 × Int32) : Option ((Int32 × Int32 × Int32) ⊕ (Int32 × Int32 × Int32)) :=
  if s.2.2 < (I o0 1) then
    (rd 10 (I (o0 + 1)) s.2.2).bind fun v6 =>
    (f_X1_peak o0 o1 s.2.1 v6 I).bind fun r7 =>
    (rd 10 (I (o0 + 1)) s.2.2).bind fun v8 =>
    some (.inl ((imax s.1 r7, s.2.1 ||| ((1 : Int32) <<< (v8 &&& 31)), s.2.2 + 1)))
  else
    some (.inr ((s.1, s.2.1, s.2.2)))
noncomputable def f_X1_needsAsPicked (o0 : Nat) (o1 : Nat) (I : MI) : Option (Int32) :=
  (lp (b_X1_needsAsPicked_7 o0 o1 I) ((0, 0, 0))).bind fun p9 =>
  some p9.1
theorem nm_X1_needsAsPicked : yX1_needsAsPicked.cls ≠ "java/lang/invoke/MethodHandle" ∧ yX1_needsAsPicked.cls ≠ "java/lang/invoke/VarHandle" ∧ (parseMethodDescriptor yX1_needsAsPicked.desc).map (fun d => d.parameters.length) = some 1 := by decide +kernel
set_option maxRecDepth 100000 in
set_option maxHeartbeats 4000000 in
theorem ct_X1_needsAsPicked {E : Ev} {d : Nat} {z : Sh} {J : MJ} {I : MI} {o0 : Nat} {o1 : Nat} {rr : Int32} (ho0 : oX1 z o0) (ho1 : oX3 z o1) (h : f_X1_needsAsPicked o0 o1 I = some rr) : Ct E (d + 3) yX1_needsAsPicked cX1_needsAsPicked 5 (some .int) 0 0 [.ref o0, .ref o1] z J I (some (.int rr)) z J I := by
  unfold f_X1_needsAsPicked at h
  refine Ct.of (own := RX1) (ls := [(0, .ref o0), (1, .ref o1)]) (by decide) rfl (Nat.le_of_ble_eq_true rfl) rfl ?_
  intro X hr0 hnm hX
  refine g_iconst hX (pc := 0) (v := 0) dX1_needsAsPicked_0 (by decide) ?_
  refine g_istore_n hX (pc := 1) (i := 2) (ls' := [(0, .ref o0), (1, .ref o1), (2, .int 0)]) [1, 2, 0] dX1_needsAsPicked_1 rfl (by decide) rfl ?_
  refine g_iconst hX (pc := 2) (v := 0) dX1_needsAsPicked_2 (by decide) ?_
  refine g_istore_n hX (pc := 3) (i := 3) (ls' := [(0, .ref o0), (1, .ref o1), (2, .int 0), (3, .int 0)]) [1, 2, 3, 0] dX1_needsAsPicked_3 rfl (by decide) rfl ?_
  refine g_iconst hX (pc := 4) (v := 0) dX1_needsAsPicked_4 (by decide) ?_
  refine g_istore hX (pc := 5) (ls' := [(0, .ref o0), (1, .ref o1), (2, .int 0), (3, .int 0), (4, .int 0)]) [1, 2, 3, 4, 0] dX1_needsAsPicked_5 (by decide) rfl ?_
  obtain ⟨p9, hpl4, h⟩ := bnd h
  have Kl4 : ∀ ql4 : Int32 × Int32 × Int32, ql4 = p9 → GW E X (QX E X 0 0 (some (.int rr)) z J I) 5 52 [(0, .ref o0), (1, .ref o1), (2, .int ql4.1), (3, .int ql4.2.1), (4, .int ql4.2.2)] [] z J I 0 0 := by
    intro ql4 hql4
    subst hql4
    refine g_iload_n hX (pc := 52) (i := 2) dX1_needsAsPicked_52 rfl 2 rfl ?_
    obtain rfl := Option.some.inj h
    exact g_ireturn hX (Nat.le_refl _) (Nat.le_refl _) dX1_needsAsPicked_53
  obtain ⟨kl4, hkl4⟩ := lp_ex hpl4
  clear hpl4 h
  have Ll4 : ∀ k : Nat, ∀ (s1 : Int32) (s2 : Int32) (s3 : Int32), lpN k (b_X1_needsAsPicked_7 o0 o1 I) ((s1, s2, s3)) = some p9 → GW E X (QX E X 0 0 (some (.int rr)) z J I) 5 7 [(0, .ref o0), (1, .ref o1), (2, .int s1), (3, .int s2), (4, .int s3)] [] z J I 0 0 := by
    intro k
    induction k with
    | zero => intro s1 s2 s3 h; cases h
    | succ k ihl4 =>
      intro s1 s2 s3 h
      obtain ⟨wl4, h, hwl4⟩ := lpN_s h
      unfold b_X1_needsAsPicked_7 at h
      try dsimp only at h
      refine g_iload hX (pc := 7) dX1_needsAsPicked_7 4 rfl ?_
      refine g_aload_n hX (pc := 9) (i := 0) dX1_needsAsPicked_9 rfl 0 rfl ?_
      refine gf1_1 hX (pc := 10) ho0 fl_X1_15 dX1_needsAsPicked_10 ?_
      refine g_icmp_ge hX (pc := 13) dX1_needsAsPicked_13 (tgt := 52) (by decide) (fun c5 => ?_) (fun c5 => ?_)
      · replace h := ifP c5 h
        refine g_iload_n hX (pc := 16) (i := 2) dX1_needsAsPicked_16 rfl 2 rfl ?_
        refine g_aload_n hX (pc := 17) (i := 0) dX1_needsAsPicked_17 rfl 0 rfl ?_
        refine g_aload_n hX (pc := 18) (i := 1) dX1_needsAsPicked_18 rfl 1 rfl ?_
        refine g_iload_n hX (pc := 19) (i := 3) dX1_needsAsPicked_19 rfl 3 rfl ?_
        refine g_aload_n hX (pc := 20) (i := 0) dX1_needsAsPicked_20 rfl 0 rfl ?_
        refine gf1_2 hX (pc := 21) ho0 fl_X1_18 dX1_needsAsPicked_21 ?_
        refine g_iload hX (pc := 24) dX1_needsAsPicked_24 4 rfl ?_
        obtain ⟨v6, e_v6, h⟩ := bnd h
        refine g_ialoadE hX (pc := 26) (s1_2 ho0).1 (s1_2 ho0).2.1 (s1_2 ho0).2.2.1 e_v6 dX1_needsAsPicked_26 ?_
        obtain ⟨r7, e_r7, h⟩ := bnd h
        refine g_callVi hX (pc := 27) (d := d + 2) hr0 [.ref o1, .int s2, .int v6] (c := 1) (ct_X1_peak (d := d + 0) ho0 ho1 e_r7) ho0.1.1 ho0.1.2 (by decide) rfl co_X1_peak ml_X1_99 im_X1_peak sl_X1_peak ini_X1 nm_X1_peak (by decide) ⟨Nat.le_refl _, Nat.le_refl _⟩ (Nat.le_refl _) (Nat.le_of_ble_eq_true rfl) rfl dX1_needsAsPicked_27 ?_
        refine g_mmax (d := d + 2) hX (pc := 30) hr0 ml_X1_103 (by exact Nat.le_of_ble_eq_true rfl) ⟨Nat.zero_le _, Nat.zero_le _⟩ dX1_needsAsPicked_30 ?_
        refine g_istore_n hX (pc := 33) (i := 2) (ls' := [(0, .ref o0), (1, .ref o1), (2, .int (imax s1 r7)), (3, .int s2), (4, .int s3)]) [1, 2, 0, 3, 4] dX1_needsAsPicked_33 rfl (by decide) rfl ?_
        refine g_iload_n hX (pc := 34) (i := 3) dX1_needsAsPicked_34 rfl 3 rfl ?_
        refine g_iconst hX (pc := 35) (v := 1) dX1_needsAsPicked_35 (by decide) ?_
        refine g_aload_n hX (pc := 36) (i := 0) dX1_needsAsPicked_36 rfl 0 rfl ?_
        refine gf1_2 hX (pc := 37) ho0 fl_X1_18 dX1_needsAsPicked_37 ?_
        refine g_iload hX (pc := 40) dX1_needsAsPicked_40 4 rfl ?_
        obtain ⟨v8, e_v8, h⟩ := bnd h
        refine g_ialoadE hX (pc := 42) (s1_2 ho0).1 (s1_2 ho0).2.1 (s1_2 ho0).2.2.1 e_v8 dX1_needsAsPicked_42 ?_
        refine g_ishl hX (pc := 43) dX1_needsAsPicked_43 ?_
        refine g_ior hX (pc := 44) dX1_needsAsPicked_44 ?_
        refine g_istore_n hX (pc := 45) (i := 3) (ls' := [(0, .ref o0), (1, .ref o1), (2, .int (imax s1 r7)), (3, .int (s2 ||| ((1 : Int32) <<< (v8 &&& 31)))), (4, .int s3)]) [1, 2, 3, 0, 4] dX1_needsAsPicked_45 rfl (by decide) rfl ?_
        refine g_iinc hX (pc := 46) (i := 4) (v := s3 + 1) (ls' := [(0, .ref o0), (1, .ref o1), (2, .int (imax s1 r7)), (3, .int (s2 ||| ((1 : Int32) <<< (v8 &&& 31)))), (4, .int (s3 + 1))]) 4 [1, 2, 3, 4, 0] dX1_needsAsPicked_46 rfl (by rfl) (by decide) rfl ?_
        refine g_goto hX (pc := 49) (tgt := 7) dX1_needsAsPicked_49 (by decide) ?_
        obtain rfl := Option.some.inj h
        exact ihl4 (imax s1 r7) (s2 ||| ((1 : Int32) <<< (v8 &&& 31))) (s3 + 1) hwl4
      · replace h := ifN c5 h
        obtain rfl := Option.some.inj h
        exact Kl4 ((s1, s2, s3)) hwl4
  exact Ll4 kl4 0 0 0 hkl4
noncomputable def b_X1_findBest_55 (o0 : Nat) (o1 : Nat) (s5 : Int32) (s : Int32 × MI) : Option ((Int32 × MI) ⊕ (Int32 × MI)) :=
  if s.1 < (s.2 o0 1) then
    (f_X4_hasBit s5 s.1).bind fun r14 =>
    (if r14 = 0 then
      (rd 64 (s.2 (o0 + 5)) s5).bind fun v17 =>
      (f_X1_needsBy o0 o1 s5 s.1 s.2).bind fun r18 =>
      (wr 64 s.2 (o0 + 5) s5 (imin v17 r18)).bind fun I19 =>
      some I19
    else
      some s.2).bind fun (p20 : MI) =>
    some (.inl ((s.1 + 1, p20)))
  else
    some (.inr ((s.1, s.2)))
noncomputable def b_X1_findBest_35 (o0 : Nat) (o1 : Nat) (s : Int32 × MI) : Option ((Int32 × MI) ⊕ (Int32 × MI)) :=
  if s.1 < 0 then
    some (.inr ((s.1, s.2)))
  else
    (wr 64 s.2 (o0 + 5) s.1 ((s.2 o0 1) + 16)).bind fun I9 =>
    (lp (b_X1_findBest_55 o0 o1 s.1) ((0, I9))).bind fun p21 =>
    some (.inl ((s.1 + (-1), p21.2)))
noncomputable def b_X1_findBest_113 (o0 : Nat) (o1 : Nat) (s : Int32 × Int32 × MI) : Option ((Int32 × Int32 × MI) ⊕ (Int32 × Int32 × MI)) :=
  if s.2.1 < (s.2.2 o0 1) then
    (rd 64 (s.2.2 (o0 + 5)) 0).bind fun v28 =>
    (f_X1_firstWithin o0 o1 s.1 v28 s.2.2).bind fun r29 =>
    (rd 10 (s.2.2 (o0 + 6)) r29).bind fun v30 =>
    (wr 6 s.2.2 (o0 + 4) s.2.1 v30).bind fun I31 =>
    some (.inl ((s.1 ||| ((1 : Int32) <<< (r29 &&& 31)), s.2.1 + 1, I31)))
  else
    some (.inr ((s.1, s.2.1, s.2.2)))
noncomputable def f_X1_findBest (o0 : Nat) (o1 : Nat) (I : MI) : Option (Int32 × MI) :=
  if 6 < (I o0 1) then
    some (((-1), I))
  else
    (f_X1_sortByNumber o0 I).bind fun r2 =>
    (wr 64 r2 (o0 + 5) (((1 : Int32) <<< ((r2 o0 1) &&& 31)) - 1) 0).bind fun I3 =>
    (nm ((((1 : Int32) <<< ((r2 o0 1) &&& 31)) - 1) - 1)).bind fun v4 =>
    (lp (b_X1_findBest_35 o0 o1) ((v4, I3))).bind fun p22 =>
    (lp (b_X1_findBest_113 o0 o1) ((0, 0, p22.2))).bind fun p32 =>
    (rd 64 (p32.2.2 (o0 + 5)) 0).bind fun v33 =>
    some ((v33, p32.2.2))
theorem nm_X1_findBest : yX1_findBest.cls ≠ "java/lang/invoke/MethodHandle" ∧ yX1_findBest.cls ≠ "java/lang/invoke/VarHandle" ∧ (parseMethodDescriptor yX1_findBest.desc).map (fun d => d.parameters.length) = some 1 := by decide +kernel
set_option maxRecDepth 100000 in
set_option maxHeartbeats 4000000 in
theorem ct_X1_findBest {E : Ev} {d : Nat} {z : Sh} {J : MJ} {I : MI} {o0 : Nat} {o1 : Nat} {rr : Int32} {Iz : MI} (ho0 : oX1 z o0) (ho1 : oX3 z o1) (h : f_X1_findBest o0 o1 I = some ((rr, Iz))) : Ct E (d + 5) yX1_findBest cX1_findBest 6 (some .int) 0 0 [.ref o0, .ref o1] z J I (some (.int rr)) z J Iz := by
  unfold f_X1_findBest at h
  refine Ct.of (own := RX1) (ls := [(0, .ref o0), (1, .ref o1)]) (by decide) rfl (Nat.le_of_ble_eq_true rfl) rfl ?_
  intro X hr0 hnm hX
  refine g_aload_n hX (pc := 0) (i := 0) dX1_findBest_0 rfl 0 rfl ?_
  refine gf1_1 hX (pc := 1) ho0 fl_X1_15 dX1_findBest_1 ?_
  refine g_bipush hX (pc := 4) (v := 6) dX1_findBest_4 (by decide) ?_
  refine g_icmp_le hX (pc := 6) dX1_findBest_6 (tgt := 11) (by decide) (fun c1 => ?_) (fun c1 => ?_)
  · replace h := ifP c1 h
    refine g_iconst hX (pc := 9) (v := (-1)) dX1_findBest_9 (by decide) ?_
    replace h := Option.some.inj h
    obtain ⟨rfl, rfl⟩ := Prod.mk.inj h
    exact g_ireturn hX (Nat.le_refl _) (Nat.le_refl _) dX1_findBest_10
  · replace h := ifN c1 h
    refine g_aload_n hX (pc := 11) (i := 0) dX1_findBest_11 rfl 0 rfl ?_
    obtain ⟨r2, e_r2, h⟩ := bnd h
    refine g_callVv hX (pc := 12) (d := d + 4) hr0 [] (c := 1) (ct_X1_sortByNumber (d := d + 4) ho0 e_r2) ho0.1.1 ho0.1.2 (by decide) rfl co_X1_sortByNumber ml_X1_106 im_X1_sortByNumber sl_X1_sortByNumber ini_X1 nm_X1_sortByNumber (by decide) ⟨Nat.le_refl _, Nat.le_refl _⟩ (Nat.le_refl _) (Nat.le_of_ble_eq_true rfl) rfl dX1_findBest_12 ?_
    refine g_iconst hX (pc := 15) (v := 1) dX1_findBest_15 (by decide) ?_
    refine g_aload_n hX (pc := 16) (i := 0) dX1_findBest_16 rfl 0 rfl ?_
    refine gf1_1 hX (pc := 17) ho0 fl_X1_15 dX1_findBest_17 ?_
    refine g_ishl hX (pc := 20) dX1_findBest_20 ?_
    refine g_iconst hX (pc := 21) (v := 1) dX1_findBest_21 (by decide) ?_
    refine g_isub hX (pc := 22) dX1_findBest_22 ?_
    refine g_istore_n hX (pc := 23) (i := 2) (ls' := [(0, .ref o0), (1, .ref o1), (2, .int (((1 : Int32) <<< ((r2 o0 1) &&& 31)) - 1))]) [1, 2, 0] dX1_findBest_23 rfl (by decide) rfl ?_
    refine g_aload_n hX (pc := 24) (i := 0) dX1_findBest_24 rfl 0 rfl ?_
    refine gf1_6 hX (pc := 25) ho0 fl_X1_31 dX1_findBest_25 ?_
    refine g_iload_n hX (pc := 28) (i := 2) dX1_findBest_28 rfl 2 rfl ?_
    refine g_iconst hX (pc := 29) (v := 0) dX1_findBest_29 (by decide) ?_
    obtain ⟨I3, e_I3, h⟩ := bnd h
    refine g_iastoreE hX (pc := 30) (s1_6 ho0).1 (s1_6 ho0).2.1 (s1_6 ho0).2.2.1 e_I3 dX1_findBest_30 ?_
    refine g_iload_n hX (pc := 31) (i := 2) dX1_findBest_31 rfl 2 rfl ?_
    refine g_iconst hX (pc := 32) (v := 1) dX1_findBest_32 (by decide) ?_
    refine g_isub hX (pc := 33) dX1_findBest_33 ?_
    obtain ⟨v4, e_v4, h⟩ := bnd h
    refine g_nmi e_v4 ?_
    refine g_istore_n hX (pc := 34) (i := 3) (ls' := [(0, .ref o0), (1, .ref o1), (2, .int (((1 : Int32) <<< ((r2 o0 1) &&& 31)) - 1)), (3, .int v4)]) [1, 2, 3, 0] dX1_findBest_34 rfl (by decide) rfl ?_
    obtain ⟨p22, hpl7, h⟩ := bnd h
    have Kl7 : ∀ ql7 : Int32 × MI, ql7 = p22 → GW E X (QX E X 0 0 (some (.int rr)) z J Iz) 6 108 [(0, .ref o0), (1, .ref o1), (2, .int (((1 : Int32) <<< ((r2 o0 1) &&& 31)) - 1)), (3, .int ql7.1)] [] z J ql7.2 0 0 := by
      intro ql7 hql7
      subst hql7
      refine g_iconst hX (pc := 108) (v := 0) dX1_findBest_108 (by decide) ?_
      refine g_istore_n hX (pc := 109) (i := 3) (ls' := [(0, .ref o0), (1, .ref o1), (2, .int (((1 : Int32) <<< ((r2 o0 1) &&& 31)) - 1)), (3, .int 0)]) [1, 2, 3, 0] dX1_findBest_109 rfl (by decide) rfl ?_
      refine g_iconst hX (pc := 110) (v := 0) dX1_findBest_110 (by decide) ?_
      refine g_istore hX (pc := 111) (ls' := [(0, .ref o0), (1, .ref o1), (2, .int (((1 : Int32) <<< ((r2 o0 1) &&& 31)) - 1)), (3, .int 0), (4, .int 0)]) [1, 2, 3, 4, 0] dX1_findBest_111 (by decide) rfl ?_
      obtain ⟨p32, hpl26, h⟩ := bnd h
      have Kl26 : ∀ ql26 : Int32 × Int32 × MI, ql26 = p32 → GW E X (QX E X 0 0 (some (.int rr)) z J Iz) 6 163 [(0, .ref o0), (1, .ref o1), (2, .int (((1 : Int32) <<< ((r2 o0 1) &&& 31)) - 1)), (3, .int ql26.1), (4, .int ql26.2.1)] [] z J ql26.2.2 0 0 := by
        intro ql26 hql26
        subst hql26
        refine g_aload_n hX (pc := 163) (i := 0) dX1_findBest_163 rfl 0 rfl ?_
        refine gf1_6 hX (pc := 164) ho0 fl_X1_31 dX1_findBest_164 ?_
        refine g_iconst hX (pc := 167) (v := 0) dX1_findBest_167 (by decide) ?_
        obtain ⟨v33, e_v33, h⟩ := bnd h
        refine g_ialoadE hX (pc := 168) (s1_6 ho0).1 (s1_6 ho0).2.1 (s1_6 ho0).2.2.1 e_v33 dX1_findBest_168 ?_
        replace h := Option.some.inj h
        obtain ⟨rfl, rfl⟩ := Prod.mk.inj h
        exact g_ireturn hX (Nat.le_refl _) (Nat.le_refl _) dX1_findBest_169
      obtain ⟨kl26, hkl26⟩ := lp_ex hpl26
      clear hpl26 h
      have Ll26 : ∀ k : Nat, ∀ (s23 : Int32) (s24 : Int32) (I25 : MI), lpN k (b_X1_findBest_113 o0 o1) ((s23, s24, I25)) = some p32 → GW E X (QX E X 0 0 (some (.int rr)) z J Iz) 6 113 [(0, .ref o0), (1, .ref o1), (2, .int (((1 : Int32) <<< ((r2 o0 1) &&& 31)) - 1)), (3, .int s23), (4, .int s24)] [] z J I25 0 0 := by
        intro k
        induction k with
        | zero => intro s23 s24 I25 h; cases h
        | succ k ihl26 =>
          intro s23 s24 I25 h
          obtain ⟨wl26, h, hwl26⟩ := lpN_s h
          unfold b_X1_findBest_113 at h
          try dsimp only at h
          refine g_iload hX (pc := 113) dX1_findBest_113 4 rfl ?_
          refine g_aload_n hX (pc := 115) (i := 0) dX1_findBest_115 rfl 0 rfl ?_
          refine gf1_1 hX (pc := 116) ho0 fl_X1_15 dX1_findBest_116 ?_
          refine g_icmp_ge hX (pc := 119) dX1_findBest_119 (tgt := 163) (by decide) (fun c27 => ?_) (fun c27 => ?_)
          · replace h := ifP c27 h
            refine g_aload_n hX (pc := 122) (i := 0) dX1_findBest_122 rfl 0 rfl ?_
            refine g_aload_n hX (pc := 123) (i := 1) dX1_findBest_123 rfl 1 rfl ?_
            refine g_iload_n hX (pc := 124) (i := 3) dX1_findBest_124 rfl 3 rfl ?_
            refine g_aload_n hX (pc := 125) (i := 0) dX1_findBest_125 rfl 0 rfl ?_
            refine gf1_6 hX (pc := 126) ho0 fl_X1_31 dX1_findBest_126 ?_
            refine g_iconst hX (pc := 129) (v := 0) dX1_findBest_129 (by decide) ?_
            obtain ⟨v28, e_v28, h⟩ := bnd h
            refine g_ialoadE hX (pc := 130) (s1_6 ho0).1 (s1_6 ho0).2.1 (s1_6 ho0).2.2.1 e_v28 dX1_findBest_130 ?_
            obtain ⟨r29, e_r29, h⟩ := bnd h
            refine g_callVi hX (pc := 131) (d := d + 4) hr0 [.ref o1, .int s23, .int v28] (c := 1) (ct_X1_firstWithin (d := d + 0) ho0 ho1 e_r29) ho0.1.1 ho0.1.2 (by decide) rfl co_X1_firstWithin ml_X1_116 im_X1_firstWithin sl_X1_firstWithin ini_X1 nm_X1_firstWithin (by decide) ⟨Nat.le_refl _, Nat.le_refl _⟩ (Nat.le_refl _) (Nat.le_of_ble_eq_true rfl) rfl dX1_findBest_131 ?_
            refine g_istore hX (pc := 134) (ls' := [(0, .ref o0), (1, .ref o1), (2, .int (((1 : Int32) <<< ((r2 o0 1) &&& 31)) - 1)), (3, .int s23), (4, .int s24), (5, .int r29)]) [1, 2, 3, 4, 5, 0] dX1_findBest_134 (by decide) rfl ?_
            refine g_aload_n hX (pc := 136) (i := 0) dX1_findBest_136 rfl 0 rfl ?_
            refine gf1_5 hX (pc := 137) ho0 fl_X1_28 dX1_findBest_137 ?_
            refine g_iload hX (pc := 140) dX1_findBest_140 4 rfl ?_
            refine g_aload_n hX (pc := 142) (i := 0) dX1_findBest_142 rfl 0 rfl ?_
            refine gf1_7 hX (pc := 143) ho0 fl_X1_34 dX1_findBest_143 ?_
            refine g_iload hX (pc := 146) dX1_findBest_146 5 rfl ?_
            obtain ⟨v30, e_v30, h⟩ := bnd h
            refine g_ialoadE hX (pc := 148) (s1_7 ho0).1 (s1_7 ho0).2.1 (s1_7 ho0).2.2.1 e_v30 dX1_findBest_148 ?_
            obtain ⟨I31, e_I31, h⟩ := bnd h
            refine g_iastoreE hX (pc := 149) (s1_5 ho0).1 (s1_5 ho0).2.1 (s1_5 ho0).2.2.1 e_I31 dX1_findBest_149 ?_
            refine g_iload_n hX (pc := 150) (i := 3) dX1_findBest_150 rfl 3 rfl ?_
            refine g_iconst hX (pc := 151) (v := 1) dX1_findBest_151 (by decide) ?_
            refine g_iload hX (pc := 152) dX1_findBest_152 5 rfl ?_
            refine g_ishl hX (pc := 154) dX1_findBest_154 ?_
            refine g_ior hX (pc := 155) dX1_findBest_155 ?_
            refine g_istore_n hX (pc := 156) (i := 3) (ls' := [(0, .ref o0), (1, .ref o1), (2, .int (((1 : Int32) <<< ((r2 o0 1) &&& 31)) - 1)), (3, .int (s23 ||| ((1 : Int32) <<< (r29 &&& 31)))), (4, .int s24), (5, .int r29)]) [1, 2, 3, 0, 4, 5] dX1_findBest_156 rfl (by decide) rfl ?_
            refine g_iinc hX (pc := 157) (i := 4) (v := s24 + 1) (ls' := [(0, .ref o0), (1, .ref o1), (2, .int (((1 : Int32) <<< ((r2 o0 1) &&& 31)) - 1)), (3, .int (s23 ||| ((1 : Int32) <<< (r29 &&& 31)))), (4, .int (s24 + 1)), (5, .int r29)]) 4 [1, 2, 3, 4, 0, 5] dX1_findBest_157 rfl (by rfl) (by decide) rfl ?_
            refine g_goto hX (pc := 160) (tgt := 113) dX1_findBest_160 (by decide) ?_
            refine g_sub (ls' := [(0, .ref o0), (1, .ref o1), (2, .int (((1 : Int32) <<< ((r2 o0 1) &&& 31)) - 1)), (3, .int (s23 ||| ((1 : Int32) <<< (r29 &&& 31)))), (4, .int (s24 + 1))]) [0, 1, 2, 3, 4] rfl ?_
            obtain rfl := Option.some.inj h
            exact ihl26 (s23 ||| ((1 : Int32) <<< (r29 &&& 31))) (s24 + 1) I31 hwl26
          · replace h := ifN c27 h
            obtain rfl := Option.some.inj h
            exact Kl26 ((s23, s24, I25)) hwl26
      exact Ll26 kl26 0 0 ql7.2 hkl26
    obtain ⟨kl7, hkl7⟩ := lp_ex hpl7
    clear hpl7 h
    have Ll7 : ∀ k : Nat, ∀ (s5 : Int32) (I6 : MI), lpN k (b_X1_findBest_35 o0 o1) ((s5, I6)) = some p22 → GW E X (QX E X 0 0 (some (.int rr)) z J Iz) 6 35 [(0, .ref o0), (1, .ref o1), (2, .int (((1 : Int32) <<< ((r2 o0 1) &&& 31)) - 1)), (3, .int s5)] [] z J I6 0 0 := by
      intro k
      induction k with
      | zero => intro s5 I6 h; cases h
      | succ k ihl7 =>
        intro s5 I6 h
        obtain ⟨wl7, h, hwl7⟩ := lpN_s h
        unfold b_X1_findBest_35 at h
        try dsimp only at h
        refine g_iload_n hX (pc := 35) (i := 3) dX1_findBest_35 rfl 3 rfl ?_
        refine g_if_lt hX (pc := 36) dX1_findBest_36 (tgt := 108) (by decide) (fun c8 => ?_) (fun c8 => ?_)
        · replace h := ifP c8 h
          obtain rfl := Option.some.inj h
          exact Kl7 ((s5, I6)) hwl7
        · replace h := ifN c8 h
          refine g_aload_n hX (pc := 39) (i := 0) dX1_findBest_39 rfl 0 rfl ?_
          refine gf1_6 hX (pc := 40) ho0 fl_X1_31 dX1_findBest_40 ?_
          refine g_iload_n hX (pc := 43) (i := 3) dX1_findBest_43 rfl 3 rfl ?_
          refine g_aload_n hX (pc := 44) (i := 0) dX1_findBest_44 rfl 0 rfl ?_
          refine gf1_1 hX (pc := 45) ho0 fl_X1_15 dX1_findBest_45 ?_
          refine g_bipush hX (pc := 48) (v := 16) dX1_findBest_48 (by decide) ?_
          refine g_iadd hX (pc := 50) dX1_findBest_50 ?_
          obtain ⟨I9, e_I9, h⟩ := bnd h
          refine g_iastoreE hX (pc := 51) (s1_6 ho0).1 (s1_6 ho0).2.1 (s1_6 ho0).2.2.1 e_I9 dX1_findBest_51 ?_
          refine g_iconst hX (pc := 52) (v := 0) dX1_findBest_52 (by decide) ?_
          refine g_istore hX (pc := 53) (ls' := [(0, .ref o0), (1, .ref o1), (2, .int (((1 : Int32) <<< ((r2 o0 1) &&& 31)) - 1)), (3, .int s5), (4, .int 0)]) [1, 2, 3, 4, 0] dX1_findBest_53 (by decide) rfl ?_
          obtain ⟨p21, hpl12, h⟩ := bnd h
          have Kl12 : ∀ ql12 : Int32 × MI, ql12 = p21 → GW E X (QX E X 0 0 (some (.int rr)) z J Iz) 6 102 [(0, .ref o0), (1, .ref o1), (2, .int (((1 : Int32) <<< ((r2 o0 1) &&& 31)) - 1)), (3, .int s5), (4, .int ql12.1)] [] z J ql12.2 0 0 := by
            intro ql12 hql12
            subst hql12
            refine g_iinc hX (pc := 102) (i := 3) (v := s5 + (-1)) (ls' := [(0, .ref o0), (1, .ref o1), (2, .int (((1 : Int32) <<< ((r2 o0 1) &&& 31)) - 1)), (3, .int (s5 + (-1))), (4, .int ql12.1)]) 3 [1, 2, 3, 0, 4] dX1_findBest_102 rfl (by rfl) (by decide) rfl ?_
            refine g_goto hX (pc := 105) (tgt := 35) dX1_findBest_105 (by decide) ?_
            refine g_sub (ls' := [(0, .ref o0), (1, .ref o1), (2, .int (((1 : Int32) <<< ((r2 o0 1) &&& 31)) - 1)), (3, .int (s5 + (-1)))]) [0, 1, 2, 3] rfl ?_
            obtain rfl := Option.some.inj h
            exact ihl7 (s5 + (-1)) ql12.2 hwl7
          obtain ⟨kl12, hkl12⟩ := lp_ex hpl12
          clear hpl12 h
          have Ll12 : ∀ k : Nat, ∀ (s10 : Int32) (I11 : MI), lpN k (b_X1_findBest_55 o0 o1 s5) ((s10, I11)) = some p21 → GW E X (QX E X 0 0 (some (.int rr)) z J Iz) 6 55 [(0, .ref o0), (1, .ref o1), (2, .int (((1 : Int32) <<< ((r2 o0 1) &&& 31)) - 1)), (3, .int s5), (4, .int s10)] [] z J I11 0 0 := by
            intro k
            induction k with
            | zero => intro s10 I11 h; cases h
            | succ k ihl12 =>
              intro s10 I11 h
              obtain ⟨wl12, h, hwl12⟩ := lpN_s h
              unfold b_X1_findBest_55 at h
              try dsimp only at h
              refine g_iload hX (pc := 55) dX1_findBest_55 4 rfl ?_
              refine g_aload_n hX (pc := 57) (i := 0) dX1_findBest_57 rfl 0 rfl ?_
              refine gf1_1 hX (pc := 58) ho0 fl_X1_15 dX1_findBest_58 ?_
              refine g_icmp_ge hX (pc := 61) dX1_findBest_61 (tgt := 102) (by decide) (fun c13 => ?_) (fun c13 => ?_)
              · replace h := ifP c13 h
                refine g_iload_n hX (pc := 64) (i := 3) dX1_findBest_64 rfl 3 rfl ?_
                refine g_iload hX (pc := 65) dX1_findBest_65 4 rfl ?_
                obtain ⟨r14, e_r14, h⟩ := bnd h
                refine g_callSNi hX (pc := 67) (d := d + 4) hr0 [.int s5, .int s10] (host := RX4) (ct_X4_hasBit (d := d + 4)  e_r14) co_X4_hasBit (by decide) sta_X4_hasBit ini_X4 nm_X4_hasBit (by decide) ⟨Nat.le_refl _, Nat.le_refl _⟩ (Nat.le_refl _) (Nat.le_of_ble_eq_true rfl) rfl dX1_findBest_67 ?_
                obtain ⟨p20, hpj16, h⟩ := bnd h
                have Kj16 : ∀ qj16 : MI, qj16 = p20 → GW E X (QX E X 0 0 (some (.int rr)) z J Iz) 6 96 [(0, .ref o0), (1, .ref o1), (2, .int (((1 : Int32) <<< ((r2 o0 1) &&& 31)) - 1)), (3, .int s5), (4, .int s10)] [] z J qj16 0 0 := by
                  intro qj16 hqj16
                  subst hqj16
                  refine g_iinc hX (pc := 96) (i := 4) (v := s10 + 1) (ls' := [(0, .ref o0), (1, .ref o1), (2, .int (((1 : Int32) <<< ((r2 o0 1) &&& 31)) - 1)), (3, .int s5), (4, .int (s10 + 1))]) 4 [1, 2, 3, 4, 0] dX1_findBest_96 rfl (by rfl) (by decide) rfl ?_
                  refine g_goto hX (pc := 99) (tgt := 55) dX1_findBest_99 (by decide) ?_
                  obtain rfl := Option.some.inj h
                  exact ihl12 (s10 + 1) qj16 hwl12
                replace h := hpj16
                clear hpj16
                refine g_if_ne hX (pc := 70) dX1_findBest_70 (tgt := 96) (by decide) (fun c15 => ?_) (fun c15 => ?_)
                · replace h := ifP c15 h
                  refine g_aload_n hX (pc := 73) (i := 0) dX1_findBest_73 rfl 0 rfl ?_
                  refine gf1_6 hX (pc := 74) ho0 fl_X1_31 dX1_findBest_74 ?_
                  refine g_iload_n hX (pc := 77) (i := 3) dX1_findBest_77 rfl 3 rfl ?_
                  refine g_aload_n hX (pc := 78) (i := 0) dX1_findBest_78 rfl 0 rfl ?_
                  refine gf1_6 hX (pc := 79) ho0 fl_X1_31 dX1_findBest_79 ?_
                  refine g_iload_n hX (pc := 82) (i := 3) dX1_findBest_82 rfl 3 rfl ?_
                  obtain ⟨v17, e_v17, h⟩ := bnd h
                  refine g_ialoadE hX (pc := 83) (s1_6 ho0).1 (s1_6 ho0).2.1 (s1_6 ho0).2.2.1 e_v17 dX1_findBest_83 ?_
                  refine g_aload_n hX (pc := 84) (i := 0) dX1_findBest_84 rfl 0 rfl ?_
                  refine g_aload_n hX (pc := 85) (i := 1) dX1_findBest_85 rfl 1 rfl ?_
                  refine g_iload_n hX (pc := 86) (i := 3) dX1_findBest_86 rfl 3 rfl ?_
                  refine g_iload hX (pc := 87) dX1_findBest_87 4 rfl ?_
                  obtain ⟨r18, e_r18, h⟩ := bnd h
                  refine g_callVi hX (pc := 89) (d := d + 4) hr0 [.ref o1, .int s5, .int s10] (c := 1) (ct_X1_needsBy (d := d + 1) ho0 ho1 e_r18) ho0.1.1 ho0.1.2 (by decide) rfl co_X1_needsBy ml_X1_113 im_X1_needsBy sl_X1_needsBy ini_X1 nm_X1_needsBy (by decide) ⟨Nat.le_refl _, Nat.le_refl _⟩ (Nat.le_refl _) (Nat.le_of_ble_eq_true rfl) rfl dX1_findBest_89 ?_
                  refine g_mmin (d := d + 4) hX (pc := 92) hr0 ml_X1_75 (by exact Nat.le_of_ble_eq_true rfl) ⟨Nat.zero_le _, Nat.zero_le _⟩ dX1_findBest_92 ?_
                  obtain ⟨I19, e_I19, h⟩ := bnd h
                  refine g_iastoreE hX (pc := 95) (s1_6 ho0).1 (s1_6 ho0).2.1 (s1_6 ho0).2.2.1 e_I19 dX1_findBest_95 ?_
                  exact Kj16 I19 (Option.some.inj h)
                · replace h := ifN c15 h
                  exact Kj16 I11 (Option.some.inj h)
              · replace h := ifN c13 h
                obtain rfl := Option.some.inj h
                exact Kl12 ((s10, I11)) hwl12
          exact Ll12 kl12 0 I9 hkl12
    exact Ll7 kl7 v4 I3 hkl7
noncomputable def b_X2_advance_8 (o0 : Nat) (b0 : Nat) (s : MI) : Option ((MI) ⊕ (MI)) :=
  if (s o0 2) < (s o0 1) then
    (rd 600 (s b0) (s o0 2)).bind fun v5 =>
    (f_X2_kindOf v5).bind fun r6 =>
    if r6 = 5 then
      (wf s o0 2 ((s o0 2) + 1)).bind fun I8 =>
      some (.inl I8)
    else
      some (.inr s)
  else
    some (.inr s)
noncomputable def f_X2_advance (o0 b0 : Nat) (I : MI) : Option (MI) :=
  if (I o0 6) = 0 then
    (lp (b_X2_advance_8 o0 b0) I).bind fun p9 =>
    (wf p9 o0 4 (p9 o0 2)).bind fun I10 =>
    (wf I10 o0 5 0).bind fun I11 =>
    if (I11 o0 2) < (I11 o0 1) then
      (rd 600 (I11 b0) (I11 o0 2)).bind fun v13 =>
      (f_X2_kindOf v13).bind fun r14 =>
      (wf I11 o0 3 r14).bind fun I15 =>
      (if (I15 o0 3) = 1 then
        (f_X2_readRun o0 b0 97 122 6 I15).bind fun r18 =>
        some r18
      else
        if (I15 o0 3) = 2 then
          (f_X2_readRun o0 b0 48 57 2 I15).bind fun r20 =>
          some r20
        else
          (wf I15 o0 2 ((I15 o0 2) + 1)).bind fun I21 =>
          some I21).bind fun (p22 : MI) =>
      some p22
    else
      (wf I11 o0 3 0).bind fun I23 =>
      some I23
  else
    some I
theorem nm_X2_advance : yX2_advance.cls ≠ "java/lang/invoke/MethodHandle" ∧ yX2_advance.cls ≠ "java/lang/invoke/VarHandle" ∧ (parseMethodDescriptor yX2_advance.desc).map (fun d => d.parameters.length) = some 0 := by decide +kernel
set_option maxRecDepth 100000 in
set_option maxHeartbeats 4000000 in
theorem ct_X2_advance {E : Ev} {d : Nat} {z : Sh} {J : MJ} {I : MI} {o0 b0 : Nat} {Iz : MI} (ho0 : oX2 z o0 b0) (h : f_X2_advance o0 b0 I = some Iz) : Ct E (d + 1) yX2_advance cX2_advance 1 none 0 0 [.ref o0] z J I none z J Iz := by
  unfold f_X2_advance at h
  refine Ct.of (own := RX2) (ls := [(0, .ref o0)]) (by decide) rfl (Nat.le_of_ble_eq_true rfl) rfl ?_
  intro X hr0 hnm hX
  refine g_aload_n hX (pc := 0) (i := 0) dX2_advance_0 rfl 0 rfl ?_
  refine gf2_6 hX (pc := 1) ho0 fl_X2_31 dX2_advance_1 ?_
  refine g_if_eq hX (pc := 4) dX2_advance_4 (tgt := 8) (by decide) (fun c1 => ?_) (fun c1 => ?_)
  · replace h := ifP c1 h
    obtain ⟨p9, hpl3, h⟩ := bnd h
    have Kl3 : ∀ ql3 : MI, ql3 = p9 → GW E X (QX E X 0 0 none z J Iz) 1 48 [(0, .ref o0)] [] z J ql3 0 0 := by
      intro ql3 hql3
      subst hql3
      refine g_aload_n hX (pc := 48) (i := 0) dX2_advance_48 rfl 0 rfl ?_
      refine g_aload_n hX (pc := 49) (i := 0) dX2_advance_49 rfl 0 rfl ?_
      refine gf2_2 hX (pc := 50) ho0 fl_X2_19 dX2_advance_50 ?_
      obtain ⟨I10, e_I10, h⟩ := bnd h
      refine pf2_4 hX (pc := 53) ho0 fl_X2_25 dX2_advance_53 e_I10 ?_
      refine g_aload_n hX (pc := 56) (i := 0) dX2_advance_56 rfl 0 rfl ?_
      refine g_iconst hX (pc := 57) (v := 0) dX2_advance_57 (by decide) ?_
      obtain ⟨I11, e_I11, h⟩ := bnd h
      refine pf2_5 hX (pc := 58) ho0 fl_X2_28 dX2_advance_58 e_I11 ?_
      refine g_aload_n hX (pc := 61) (i := 0) dX2_advance_61 rfl 0 rfl ?_
      refine gf2_2 hX (pc := 62) ho0 fl_X2_19 dX2_advance_62 ?_
      refine g_aload_n hX (pc := 65) (i := 0) dX2_advance_65 rfl 0 rfl ?_
      refine gf2_1 hX (pc := 66) ho0 fl_X2_15 dX2_advance_66 ?_
      refine g_icmp_lt hX (pc := 69) dX2_advance_69 (tgt := 78) (by decide) (fun c12 => ?_) (fun c12 => ?_)
      · replace h := ifP c12 h
        refine g_aload_n hX (pc := 78) (i := 0) dX2_advance_78 rfl 0 rfl ?_
        refine g_aload_n hX (pc := 79) (i := 0) dX2_advance_79 rfl 0 rfl ?_
        refine gf2_0 hX (pc := 80) ho0 fl_X2_9 dX2_advance_80 ?_
        refine g_aload_n hX (pc := 83) (i := 0) dX2_advance_83 rfl 0 rfl ?_
        refine gf2_2 hX (pc := 84) ho0 fl_X2_19 dX2_advance_84 ?_
        obtain ⟨v13, e_v13, h⟩ := bnd h
        refine g_baloadE hX (pc := 87) ho0.2.2.1 ho0.2.2.2.1 ho0.2.2.2.2 e_v13 dX2_advance_87 ?_
        obtain ⟨r14, e_r14, h⟩ := bnd h
        refine g_callSi hX (pc := 88) (d := d + 0) hr0 [.int v13] (ct_X2_kindOf (d := d + 0)  e_r14) co_X2_kindOf ml_X2_147 sta_X2_kindOf ini_X2 nm_X2_kindOf (by decide) ⟨Nat.le_refl _, Nat.le_refl _⟩ (Nat.le_refl _) (Nat.le_of_ble_eq_true rfl) rfl dX2_advance_88 ?_
        obtain ⟨I15, e_I15, h⟩ := bnd h
        refine pf2_3 hX (pc := 91) ho0 fl_X2_22 dX2_advance_91 e_I15 ?_
        refine g_aload_n hX (pc := 94) (i := 0) dX2_advance_94 rfl 0 rfl ?_
        refine gf2_3 hX (pc := 95) ho0 fl_X2_22 dX2_advance_95 ?_
        refine g_iconst hX (pc := 98) (v := 1) dX2_advance_98 (by decide) ?_
        obtain ⟨p22, hpj17, h⟩ := bnd h
        have Kj17 : ∀ qj17 : MI, qj17 = p22 → GW E X (QX E X 0 0 none z J Iz) 1 145 [(0, .ref o0)] [] z J qj17 0 0 := by
          intro qj17 hqj17
          subst hqj17
          obtain rfl := Option.some.inj h
          exact g_return hX (Nat.le_refl _) (Nat.le_refl _) dX2_advance_145
        replace h := hpj17
        clear hpj17
        refine g_icmp_ne hX (pc := 99) dX2_advance_99 (tgt := 115) (by decide) (fun c16 => ?_) (fun c16 => ?_)
        · replace h := ifP c16 h
          refine g_aload_n hX (pc := 102) (i := 0) dX2_advance_102 rfl 0 rfl ?_
          refine g_bipush hX (pc := 103) (v := 97) dX2_advance_103 (by decide) ?_
          refine g_bipush hX (pc := 105) (v := 122) dX2_advance_105 (by decide) ?_
          refine g_bipush hX (pc := 107) (v := 6) dX2_advance_107 (by decide) ?_
          obtain ⟨r18, e_r18, h⟩ := bnd h
          refine g_callVv hX (pc := 109) (d := d + 0) hr0 [.int 97, .int 122, .int 6] (c := 2) (ct_X2_readRun (d := d + 0) ho0 e_r18) ho0.1.1 ho0.1.2 (by decide) rfl co_X2_readRun ml_X2_150 im_X2_readRun sl_X2_readRun ini_X2 nm_X2_readRun (by decide) ⟨Nat.le_refl _, Nat.le_refl _⟩ (Nat.le_refl _) (Nat.le_of_ble_eq_true rfl) rfl dX2_advance_109 ?_
          refine g_goto hX (pc := 112) (tgt := 145) dX2_advance_112 (by decide) ?_
          exact Kj17 r18 (Option.some.inj h)
        · replace h := ifN c16 h
          refine g_aload_n hX (pc := 115) (i := 0) dX2_advance_115 rfl 0 rfl ?_
          refine gf2_3 hX (pc := 116) ho0 fl_X2_22 dX2_advance_116 ?_
          refine g_iconst hX (pc := 119) (v := 2) dX2_advance_119 (by decide) ?_
          refine g_icmp_ne hX (pc := 120) dX2_advance_120 (tgt := 135) (by decide) (fun c19 => ?_) (fun c19 => ?_)
          · replace h := ifP c19 h
            refine g_aload_n hX (pc := 123) (i := 0) dX2_advance_123 rfl 0 rfl ?_
            refine g_bipush hX (pc := 124) (v := 48) dX2_advance_124 (by decide) ?_
            refine g_bipush hX (pc := 126) (v := 57) dX2_advance_126 (by decide) ?_
            refine g_iconst hX (pc := 128) (v := 2) dX2_advance_128 (by decide) ?_
            obtain ⟨r20, e_r20, h⟩ := bnd h
            refine g_callVv hX (pc := 129) (d := d + 0) hr0 [.int 48, .int 57, .int 2] (c := 2) (ct_X2_readRun (d := d + 0) ho0 e_r20) ho0.1.1 ho0.1.2 (by decide) rfl co_X2_readRun ml_X2_150 im_X2_readRun sl_X2_readRun ini_X2 nm_X2_readRun (by decide) ⟨Nat.le_refl _, Nat.le_refl _⟩ (Nat.le_refl _) (Nat.le_of_ble_eq_true rfl) rfl dX2_advance_129 ?_
            refine g_goto hX (pc := 132) (tgt := 145) dX2_advance_132 (by decide) ?_
            exact Kj17 r20 (Option.some.inj h)
          · replace h := ifN c19 h
            refine g_aload_n hX (pc := 135) (i := 0) dX2_advance_135 rfl 0 rfl ?_
            refine g_dup hX (pc := 136) dX2_advance_136 rfl ?_
            refine gf2_2 hX (pc := 137) ho0 fl_X2_19 dX2_advance_137 ?_
            refine g_iconst hX (pc := 140) (v := 1) dX2_advance_140 (by decide) ?_
            refine g_iadd hX (pc := 141) dX2_advance_141 ?_
            obtain ⟨I21, e_I21, h⟩ := bnd h
            refine pf2_2 hX (pc := 142) ho0 fl_X2_19 dX2_advance_142 e_I21 ?_
            exact Kj17 I21 (Option.some.inj h)
      · replace h := ifN c12 h
        refine g_aload_n hX (pc := 72) (i := 0) dX2_advance_72 rfl 0 rfl ?_
        refine g_iconst hX (pc := 73) (v := 0) dX2_advance_73 (by decide) ?_
        obtain ⟨I23, e_I23, h⟩ := bnd h
        refine pf2_3 hX (pc := 74) ho0 fl_X2_22 dX2_advance_74 e_I23 ?_
        obtain rfl := Option.some.inj h
        exact g_return hX (Nat.le_refl _) (Nat.le_refl _) dX2_advance_77
    obtain ⟨kl3, hkl3⟩ := lp_ex hpl3
    clear hpl3 h
    have Ll3 : ∀ k : Nat, ∀ (I2 : MI), lpN k (b_X2_advance_8 o0 b0) I2 = some p9 → GW E X (QX E X 0 0 none z J Iz) 1 8 [(0, .ref o0)] [] z J I2 0 0 := by
      intro k
      induction k with
      | zero => intro I2 h; cases h
      | succ k ihl3 =>
        intro I2 h
        obtain ⟨wl3, h, hwl3⟩ := lpN_s h
        unfold b_X2_advance_8 at h
        try dsimp only at h
        refine g_aload_n hX (pc := 8) (i := 0) dX2_advance_8 rfl 0 rfl ?_
        refine gf2_2 hX (pc := 9) ho0 fl_X2_19 dX2_advance_9 ?_
        refine g_aload_n hX (pc := 12) (i := 0) dX2_advance_12 rfl 0 rfl ?_
        refine gf2_1 hX (pc := 13) ho0 fl_X2_15 dX2_advance_13 ?_
        refine g_icmp_ge hX (pc := 16) dX2_advance_16 (tgt := 48) (by decide) (fun c4 => ?_) (fun c4 => ?_)
        · replace h := ifP c4 h
          refine g_aload_n hX (pc := 19) (i := 0) dX2_advance_19 rfl 0 rfl ?_
          refine gf2_0 hX (pc := 20) ho0 fl_X2_9 dX2_advance_20 ?_
          refine g_aload_n hX (pc := 23) (i := 0) dX2_advance_23 rfl 0 rfl ?_
          refine gf2_2 hX (pc := 24) ho0 fl_X2_19 dX2_advance_24 ?_
          obtain ⟨v5, e_v5, h⟩ := bnd h
          refine g_baloadE hX (pc := 27) ho0.2.2.1 ho0.2.2.2.1 ho0.2.2.2.2 e_v5 dX2_advance_27 ?_
          obtain ⟨r6, e_r6, h⟩ := bnd h
          refine g_callSi hX (pc := 28) (d := d + 0) hr0 [.int v5] (ct_X2_kindOf (d := d + 0)  e_r6) co_X2_kindOf ml_X2_147 sta_X2_kindOf ini_X2 nm_X2_kindOf (by decide) ⟨Nat.le_refl _, Nat.le_refl _⟩ (Nat.le_refl _) (Nat.le_of_ble_eq_true rfl) rfl dX2_advance_28 ?_
          refine g_iconst hX (pc := 31) (v := 5) dX2_advance_31 (by decide) ?_
          refine g_icmp_ne hX (pc := 32) dX2_advance_32 (tgt := 48) (by decide) (fun c7 => ?_) (fun c7 => ?_)
          · replace h := ifP c7 h
            refine g_aload_n hX (pc := 35) (i := 0) dX2_advance_35 rfl 0 rfl ?_
            refine g_dup hX (pc := 36) dX2_advance_36 rfl ?_
            refine gf2_2 hX (pc := 37) ho0 fl_X2_19 dX2_advance_37 ?_
            refine g_iconst hX (pc := 40) (v := 1) dX2_advance_40 (by decide) ?_
            refine g_iadd hX (pc := 41) dX2_advance_41 ?_
            obtain ⟨I8, e_I8, h⟩ := bnd h
            refine pf2_2 hX (pc := 42) ho0 fl_X2_19 dX2_advance_42 e_I8 ?_
            refine g_goto hX (pc := 45) (tgt := 8) dX2_advance_45 (by decide) ?_
            obtain rfl := Option.some.inj h
            exact ihl3 I8 hwl3
          · replace h := ifN c7 h
            obtain rfl := Option.some.inj h
            exact Kl3 I2 hwl3
        · replace h := ifN c4 h
          obtain rfl := Option.some.inj h
          exact Kl3 I2 hwl3
    exact Ll3 kl3 I hkl3
  · replace h := ifN c1 h
    obtain rfl := Option.some.inj h
    exact g_return hX (Nat.le_refl _) (Nat.le_refl _) dX2_advance_7
noncomputable def f_X3_clear (o0 : Nat) (I : MI) : Option (MI) :=
  (wf I o0 0 0).bind fun I1 =>
  (wf I1 o0 1 4).bind fun I2 =>
  (wf I2 o0 2 0).bind fun I3 =>
  (wf I3 o0 3 4).bind fun I4 =>
  (wf I4 o0 4 30).bind fun I5 =>
  (wf I5 o0 5 0).bind fun I6 =>
  (wf I6 o0 6 0).bind fun I7 =>
  (wf I7 o0 10 0).bind fun I8 =>
  (f_J7_fill_53178 (o0 + 6) 160 0 I8).bind fun r9 =>
  (f_J7_fill_53178 (o0 + 7) 16 0 r9).bind fun r10 =>
  (f_J7_fill_53178 (o0 + 8) 16 0 r10).bind fun r11 =>
  some r11
theorem nm_X3_clear : yX3_clear.cls ≠ "java/lang/invoke/MethodHandle" ∧ yX3_clear.cls ≠ "java/lang/invoke/VarHandle" ∧ (parseMethodDescriptor yX3_clear.desc).map (fun d => d.parameters.length) = some 0 := by decide +kernel
set_option maxRecDepth 100000 in
set_option maxHeartbeats 4000000 in
theorem ct_X3_clear {E : Ev} {d : Nat} {z : Sh} {J : MJ} {I : MI} {o0 : Nat} {Iz : MI} (ho0 : oX3 z o0) (h : f_X3_clear o0 I = some Iz) : Ct E (d + 1) yX3_clear cX3_clear 1 none 0 0 [.ref o0] z J I none z J Iz := by
  unfold f_X3_clear at h
  refine Ct.of (own := RX3) (ls := [(0, .ref o0)]) (by decide) rfl (Nat.le_of_ble_eq_true rfl) rfl ?_
  intro X hr0 hnm hX
  refine g_aload_n hX (pc := 0) (i := 0) dX3_clear_0 rfl 0 rfl ?_
  refine g_iconst hX (pc := 1) (v := 0) dX3_clear_1 (by decide) ?_
  obtain ⟨I1, e_I1, h⟩ := bnd h
  refine pf3_0 hX (pc := 2) ho0 fl_X3_9 dX3_clear_2 e_I1 ?_
  refine g_aload_n hX (pc := 5) (i := 0) dX3_clear_5 rfl 0 rfl ?_
  refine g_iconst hX (pc := 6) (v := 4) dX3_clear_6 (by decide) ?_
  obtain ⟨I2, e_I2, h⟩ := bnd h
  refine pf3_1 hX (pc := 7) ho0 fl_X3_15 dX3_clear_7 e_I2 ?_
  refine g_aload_n hX (pc := 10) (i := 0) dX3_clear_10 rfl 0 rfl ?_
  refine g_iconst hX (pc := 11) (v := 0) dX3_clear_11 (by decide) ?_
  obtain ⟨I3, e_I3, h⟩ := bnd h
  refine pf3_2 hX (pc := 12) ho0 fl_X3_18 dX3_clear_12 e_I3 (by decide) ?_
  refine g_aload_n hX (pc := 15) (i := 0) dX3_clear_15 rfl 0 rfl ?_
  refine g_iconst hX (pc := 16) (v := 4) dX3_clear_16 (by decide) ?_
  obtain ⟨I4, e_I4, h⟩ := bnd h
  refine pf3_3 hX (pc := 17) ho0 fl_X3_22 dX3_clear_17 e_I4 ?_
  refine g_aload_n hX (pc := 20) (i := 0) dX3_clear_20 rfl 0 rfl ?_
  refine g_bipush hX (pc := 21) (v := 30) dX3_clear_21 (by decide) ?_
  obtain ⟨I5, e_I5, h⟩ := bnd h
  refine pf3_4 hX (pc := 23) ho0 fl_X3_25 dX3_clear_23 e_I5 ?_
  refine g_aload_n hX (pc := 26) (i := 0) dX3_clear_26 rfl 0 rfl ?_
  refine g_iconst hX (pc := 27) (v := 0) dX3_clear_27 (by decide) ?_
  obtain ⟨I6, e_I6, h⟩ := bnd h
  refine pf3_5 hX (pc := 28) ho0 fl_X3_28 dX3_clear_28 e_I6 (by decide) ?_
  refine g_aload_n hX (pc := 31) (i := 0) dX3_clear_31 rfl 0 rfl ?_
  refine g_iconst hX (pc := 32) (v := 0) dX3_clear_32 (by decide) ?_
  obtain ⟨I7, e_I7, h⟩ := bnd h
  refine pf3_6 hX (pc := 33) ho0 fl_X3_31 dX3_clear_33 e_I7 ?_
  refine g_aload_n hX (pc := 36) (i := 0) dX3_clear_36 rfl 0 rfl ?_
  refine g_iconst hX (pc := 37) (v := 0) dX3_clear_37 (by decide) ?_
  obtain ⟨I8, e_I8, h⟩ := bnd h
  refine pf3_10 hX (pc := 38) ho0 fl_X3_44 dX3_clear_38 e_I8 ?_
  refine g_aload_n hX (pc := 41) (i := 0) dX3_clear_41 rfl 0 rfl ?_
  refine gf3_13 hX (pc := 42) ho0 fl_X3_53 dX3_clear_42 ?_
  refine g_iconst hX (pc := 45) (v := 0) dX3_clear_45 (by decide) ?_
  obtain ⟨r9, e_r9, h⟩ := bnd h
  refine g_callSv hX (pc := 46) (d := d + 0) hr0 [.ref (o0 + 6), .int 0] (ct_J7_fill_53178 (d := d + 0) ⟨(s3_13 ho0).1, (s3_13 ho0).2.1, (s3_13 ho0).2.2.1⟩ e_r9) co_J7_fill_53178 ml_X3_65 sta_J7_fill_53178 ini_J7 nm_J7_fill_53178 (by decide) ⟨Nat.le_refl _, Nat.le_refl _⟩ (Nat.le_refl _) (Nat.le_of_ble_eq_true rfl) rfl dX3_clear_46 ?_
  refine g_aload_n hX (pc := 49) (i := 0) dX3_clear_49 rfl 0 rfl ?_
  refine gf3_14 hX (pc := 50) ho0 fl_X3_56 dX3_clear_50 ?_
  refine g_iconst hX (pc := 53) (v := 0) dX3_clear_53 (by decide) ?_
  obtain ⟨r10, e_r10, h⟩ := bnd h
  refine g_callSv hX (pc := 54) (d := d + 0) hr0 [.ref (o0 + 7), .int 0] (ct_J7_fill_53178 (d := d + 0) ⟨(s3_14 ho0).1, (s3_14 ho0).2.1, (s3_14 ho0).2.2.1⟩ e_r10) co_J7_fill_53178 ml_X3_65 sta_J7_fill_53178 ini_J7 nm_J7_fill_53178 (by decide) ⟨Nat.le_refl _, Nat.le_refl _⟩ (Nat.le_refl _) (Nat.le_of_ble_eq_true rfl) rfl dX3_clear_54 ?_
  refine g_aload_n hX (pc := 57) (i := 0) dX3_clear_57 rfl 0 rfl ?_
  refine gf3_15 hX (pc := 58) ho0 fl_X3_59 dX3_clear_58 ?_
  refine g_iconst hX (pc := 61) (v := 0) dX3_clear_61 (by decide) ?_
  obtain ⟨r11, e_r11, h⟩ := bnd h
  refine g_callSv hX (pc := 62) (d := d + 0) hr0 [.ref (o0 + 8), .int 0] (ct_J7_fill_53178 (d := d + 0) ⟨(s3_15 ho0).1, (s3_15 ho0).2.1, (s3_15 ho0).2.2.1⟩ e_r11) co_J7_fill_53178 ml_X3_65 sta_J7_fill_53178 ini_J7 nm_J7_fill_53178 (by decide) ⟨Nat.le_refl _, Nat.le_refl _⟩ (Nat.le_refl _) (Nat.le_of_ble_eq_true rfl) rfl dX3_clear_62 ?_
  obtain rfl := Option.some.inj h
  exact g_return hX (Nat.le_refl _) (Nat.le_refl _) dX3_clear_65
noncomputable def b_X3_bestToJoin_12 (o0 : Nat) (x1 : Int32) (x2 : Int32) (x3 : Int32) (I : MI) (s : Int32 × Int32 × Int32 × Int32) : Option ((Int32 × Int32 × Int32 × Int32) ⊕ (Int32 × Int32 × Int32 × Int32)) :=
  if s.2.2.2 < (I o0 10) then
    (rd 16 (I (o0 + 9)) s.2.2.2).bind fun v7 =>
    (f_X4_hasBit x2 v7).bind fun r8 =>
    (if r8 = 0 then
      some ((s.1, s.2.1, s.2.2.1))
    else
      (rd 16 (I (o0 + 7)) v7).bind fun v11 =>
      if x3 < v11 then
        some ((s.1, s.2.1, s.2.2.1))
      else
        (rd 16 (I (o0 + 8)) v7).bind fun v13 =>
        (f_J6_bitCount_0f7a4 (v13 &&& x1)).bind fun r14 =>
        (rd 16 (I (o0 + 8)) v7).bind fun v15 =>
        (f_J6_bitCount_0f7a4 (v15 &&& (x1 ^^^ ((-1))))).bind fun r16 =>
        if s.1 = ((-1)) then
          some ((v7, r14, r16))
        else
          if s.2.1 < r14 then
            some ((v7, r14, r16))
          else
            if r14 = s.2.1 then
              if r16 < s.2.2.1 then
                some ((v7, r14, r16))
              else
                some ((s.1, s.2.1, s.2.2.1))
            else
              some ((s.1, s.2.1, s.2.2.1))).bind fun (p21 : Int32 × Int32 × Int32) =>
    some (.inl ((p21.1, p21.2.1, p21.2.2, s.2.2.2 + 1)))
  else
    some (.inr ((s.1, s.2.1, s.2.2.1, s.2.2.2)))
noncomputable def f_X3_bestToJoin (o0 : Nat) (x1 : Int32) (x2 : Int32) (x3 : Int32) (I : MI) : Option (Int32) :=
  (lp (b_X3_bestToJoin_12 o0 x1 x2 x3 I) (((-1), 0, 0, 0))).bind fun p22 =>
  some p22.1
theorem nm_X3_bestToJoin : yX3_bestToJoin.cls ≠ "java/lang/invoke/MethodHandle" ∧ yX3_bestToJoin.cls ≠ "java/lang/invoke/VarHandle" ∧ (parseMethodDescriptor yX3_bestToJoin.desc).map (fun d => d.parameters.length) = some 3 := by decide +kernel
set_option maxRecDepth 100000 in
set_option maxHeartbeats 4000000 in
theorem ct_X3_bestToJoin {E : Ev} {d : Nat} {z : Sh} {J : MJ} {I : MI} {o0 : Nat} {x1 : Int32} {x2 : Int32} {x3 : Int32} {rr : Int32} (ho0 : oX3 z o0) (h : f_X3_bestToJoin o0 x1 x2 x3 I = some rr) : Ct E (d + 1) yX3_bestToJoin cX3_bestToJoin 11 (some .int) 0 0 [.ref o0, .int x1, .int x2, .int x3] z J I (some (.int rr)) z J I := by
  unfold f_X3_bestToJoin at h
  refine Ct.of (own := RX3) (ls := [(0, .ref o0), (1, .int x1), (2, .int x2), (3, .int x3)]) (by decide) rfl (Nat.le_of_ble_eq_true rfl) rfl ?_
  intro X hr0 hnm hX
  refine g_iconst hX (pc := 0) (v := (-1)) dX3_bestToJoin_0 (by decide) ?_
  refine g_istore hX (pc := 1) (ls' := [(0, .ref o0), (1, .int x1), (2, .int x2), (3, .int x3), (4, .int ((-1)))]) [1, 2, 3, 4, 0] dX3_bestToJoin_1 (by decide) rfl ?_
  refine g_iconst hX (pc := 3) (v := 0) dX3_bestToJoin_3 (by decide) ?_
  refine g_istore hX (pc := 4) (ls' := [(0, .ref o0), (1, .int x1), (2, .int x2), (3, .int x3), (4, .int ((-1))), (5, .int 0)]) [1, 2, 3, 4, 5, 0] dX3_bestToJoin_4 (by decide) rfl ?_
  refine g_iconst hX (pc := 6) (v := 0) dX3_bestToJoin_6 (by decide) ?_
  refine g_istore hX (pc := 7) (ls' := [(0, .ref o0), (1, .int x1), (2, .int x2), (3, .int x3), (4, .int ((-1))), (5, .int 0), (6, .int 0)]) [1, 2, 3, 4, 5, 6, 0] dX3_bestToJoin_7 (by decide) rfl ?_
  refine g_iconst hX (pc := 9) (v := 0) dX3_bestToJoin_9 (by decide) ?_
  refine g_istore hX (pc := 10) (ls' := [(0, .ref o0), (1, .int x1), (2, .int x2), (3, .int x3), (4, .int ((-1))), (5, .int 0), (6, .int 0), (7, .int 0)]) [1, 2, 3, 4, 5, 6, 7, 0] dX3_bestToJoin_10 (by decide) rfl ?_
  obtain ⟨p22, hpl5, h⟩ := bnd h
  have Kl5 : ∀ ql5 : Int32 × Int32 × Int32 × Int32, ql5 = p22 → GW E X (QX E X 0 0 (some (.int rr)) z J I) 11 128 [(0, .ref o0), (1, .int x1), (2, .int x2), (3, .int x3), (4, .int ql5.1), (5, .int ql5.2.1), (6, .int ql5.2.2.1), (7, .int ql5.2.2.2)] [] z J I 0 0 := by
    intro ql5 hql5
    subst hql5
    refine g_iload hX (pc := 128) dX3_bestToJoin_128 4 rfl ?_
    obtain rfl := Option.some.inj h
    exact g_ireturn hX (Nat.le_refl _) (Nat.le_refl _) dX3_bestToJoin_130
  obtain ⟨kl5, hkl5⟩ := lp_ex hpl5
  clear hpl5 h
  have Ll5 : ∀ k : Nat, ∀ (s1 : Int32) (s2 : Int32) (s3 : Int32) (s4 : Int32), lpN k (b_X3_bestToJoin_12 o0 x1 x2 x3 I) ((s1, s2, s3, s4)) = some p22 → GW E X (QX E X 0 0 (some (.int rr)) z J I) 11 12 [(0, .ref o0), (1, .int x1), (2, .int x2), (3, .int x3), (4, .int s1), (5, .int s2), (6, .int s3), (7, .int s4)] [] z J I 0 0 := by
    intro k
    induction k with
    | zero => intro s1 s2 s3 s4 h; cases h
    | succ k ihl5 =>
      intro s1 s2 s3 s4 h
      obtain ⟨wl5, h, hwl5⟩ := lpN_s h
      unfold b_X3_bestToJoin_12 at h
      try dsimp only at h
      refine g_iload hX (pc := 12) dX3_bestToJoin_12 7 rfl ?_
      refine g_aload_n hX (pc := 14) (i := 0) dX3_bestToJoin_14 rfl 0 rfl ?_
      refine gf3_10 hX (pc := 15) ho0 fl_X3_44 dX3_bestToJoin_15 ?_
      refine g_icmp_ge hX (pc := 18) dX3_bestToJoin_18 (tgt := 128) (by decide) (fun c6 => ?_) (fun c6 => ?_)
      · replace h := ifP c6 h
        refine g_aload_n hX (pc := 21) (i := 0) dX3_bestToJoin_21 rfl 0 rfl ?_
        refine gf3_16 hX (pc := 22) ho0 fl_X3_62 dX3_bestToJoin_22 ?_
        refine g_iload hX (pc := 25) dX3_bestToJoin_25 7 rfl ?_
        obtain ⟨v7, e_v7, h⟩ := bnd h
        refine g_ialoadE hX (pc := 27) (s3_16 ho0).1 (s3_16 ho0).2.1 (s3_16 ho0).2.2.1 e_v7 dX3_bestToJoin_27 ?_
        refine g_istore hX (pc := 28) (ls' := [(0, .ref o0), (1, .int x1), (2, .int x2), (3, .int x3), (4, .int s1), (5, .int s2), (6, .int s3), (7, .int s4), (8, .int v7)]) [1, 2, 3, 4, 5, 6, 7, 8, 0] dX3_bestToJoin_28 (by decide) rfl ?_
        refine g_iload_n hX (pc := 30) (i := 2) dX3_bestToJoin_30 rfl 2 rfl ?_
        refine g_iload hX (pc := 31) dX3_bestToJoin_31 8 rfl ?_
        obtain ⟨r8, e_r8, h⟩ := bnd h
        refine g_callSNi hX (pc := 33) (d := d + 0) hr0 [.int x2, .int v7] (host := RX4) (ct_X4_hasBit (d := d + 0)  e_r8) co_X4_hasBit (by decide) sta_X4_hasBit ini_X4 nm_X4_hasBit (by decide) ⟨Nat.le_refl _, Nat.le_refl _⟩ (Nat.le_refl _) (Nat.le_of_ble_eq_true rfl) rfl dX3_bestToJoin_33 ?_
        obtain ⟨p21, hpj10, h⟩ := bnd h
        have Kj10 : ∀ qj10 : Int32 × Int32 × Int32, qj10 = p21 → GW E X (QX E X 0 0 (some (.int rr)) z J I) 11 122 [(0, .ref o0), (1, .int x1), (2, .int x2), (3, .int x3), (4, .int qj10.1), (5, .int qj10.2.1), (6, .int qj10.2.2), (7, .int s4), (8, .int v7)] [] z J I 0 0 := by
          intro qj10 hqj10
          subst hqj10
          refine g_iinc hX (pc := 122) (i := 7) (v := s4 + 1) (ls' := [(0, .ref o0), (1, .int x1), (2, .int x2), (3, .int x3), (4, .int qj10.1), (5, .int qj10.2.1), (6, .int qj10.2.2), (7, .int (s4 + 1)), (8, .int v7)]) 7 [1, 2, 3, 4, 5, 6, 7, 0, 8] dX3_bestToJoin_122 rfl (by rfl) (by decide) rfl ?_
          refine g_goto hX (pc := 125) (tgt := 12) dX3_bestToJoin_125 (by decide) ?_
          refine g_sub (ls' := [(0, .ref o0), (1, .int x1), (2, .int x2), (3, .int x3), (4, .int qj10.1), (5, .int qj10.2.1), (6, .int qj10.2.2), (7, .int (s4 + 1))]) [0, 1, 2, 3, 4, 5, 6, 7] rfl ?_
          obtain rfl := Option.some.inj h
          exact ihl5 qj10.1 qj10.2.1 qj10.2.2 (s4 + 1) hwl5
        replace h := hpj10
        clear hpj10
        refine g_if_eq hX (pc := 36) dX3_bestToJoin_36 (tgt := 122) (by decide) (fun c9 => ?_) (fun c9 => ?_)
        · replace h := ifP c9 h
          exact Kj10 ((s1, s2, s3)) (Option.some.inj h)
        · replace h := ifN c9 h
          refine g_aload_n hX (pc := 39) (i := 0) dX3_bestToJoin_39 rfl 0 rfl ?_
          refine gf3_14 hX (pc := 40) ho0 fl_X3_56 dX3_bestToJoin_40 ?_
          refine g_iload hX (pc := 43) dX3_bestToJoin_43 8 rfl ?_
          obtain ⟨v11, e_v11, h⟩ := bnd h
          refine g_ialoadE hX (pc := 45) (s3_14 ho0).1 (s3_14 ho0).2.1 (s3_14 ho0).2.2.1 e_v11 dX3_bestToJoin_45 ?_
          refine g_iload_n hX (pc := 46) (i := 3) dX3_bestToJoin_46 rfl 3 rfl ?_
          refine g_icmp_le hX (pc := 47) dX3_bestToJoin_47 (tgt := 53) (by decide) (fun c12 => ?_) (fun c12 => ?_)
          · replace h := ifP c12 h
            refine g_goto hX (pc := 50) (tgt := 122) dX3_bestToJoin_50 (by decide) ?_
            exact Kj10 ((s1, s2, s3)) (Option.some.inj h)
          · replace h := ifN c12 h
            refine g_aload_n hX (pc := 53) (i := 0) dX3_bestToJoin_53 rfl 0 rfl ?_
            refine gf3_15 hX (pc := 54) ho0 fl_X3_59 dX3_bestToJoin_54 ?_
            refine g_iload hX (pc := 57) dX3_bestToJoin_57 8 rfl ?_
            obtain ⟨v13, e_v13, h⟩ := bnd h
            refine g_ialoadE hX (pc := 59) (s3_15 ho0).1 (s3_15 ho0).2.1 (s3_15 ho0).2.2.1 e_v13 dX3_bestToJoin_59 ?_
            refine g_iload_n hX (pc := 60) (i := 1) dX3_bestToJoin_60 rfl 1 rfl ?_
            refine g_iand hX (pc := 61) dX3_bestToJoin_61 ?_
            obtain ⟨r14, e_r14, h⟩ := bnd h
            refine g_callSi hX (pc := 62) (d := d + 0) hr0 [.int (v13 &&& x1)] (ct_J6_bitCount_0f7a4 (d := d + 0)  e_r14) co_J6_bitCount_0f7a4 ml_X3_100 sta_J6_bitCount_0f7a4 ini_J6 nm_J6_bitCount_0f7a4 (by decide) ⟨Nat.le_refl _, Nat.le_refl _⟩ (Nat.le_refl _) (Nat.le_of_ble_eq_true rfl) rfl dX3_bestToJoin_62 ?_
            refine g_istore hX (pc := 65) (ls' := [(0, .ref o0), (1, .int x1), (2, .int x2), (3, .int x3), (4, .int s1), (5, .int s2), (6, .int s3), (7, .int s4), (8, .int v7), (9, .int r14)]) [1, 2, 3, 4, 5, 6, 7, 8, 9, 0] dX3_bestToJoin_65 (by decide) rfl ?_
            refine g_aload_n hX (pc := 67) (i := 0) dX3_bestToJoin_67 rfl 0 rfl ?_
            refine gf3_15 hX (pc := 68) ho0 fl_X3_59 dX3_bestToJoin_68 ?_
            refine g_iload hX (pc := 71) dX3_bestToJoin_71 8 rfl ?_
            obtain ⟨v15, e_v15, h⟩ := bnd h
            refine g_ialoadE hX (pc := 73) (s3_15 ho0).1 (s3_15 ho0).2.1 (s3_15 ho0).2.2.1 e_v15 dX3_bestToJoin_73 ?_
            refine g_iload_n hX (pc := 74) (i := 1) dX3_bestToJoin_74 rfl 1 rfl ?_
            refine g_iconst hX (pc := 75) (v := (-1)) dX3_bestToJoin_75 (by decide) ?_
            refine g_ixor hX (pc := 76) dX3_bestToJoin_76 ?_
            refine g_iand hX (pc := 77) dX3_bestToJoin_77 ?_
            obtain ⟨r16, e_r16, h⟩ := bnd h
            refine g_callSi hX (pc := 78) (d := d + 0) hr0 [.int (v15 &&& (x1 ^^^ ((-1))))] (ct_J6_bitCount_0f7a4 (d := d + 0)  e_r16) co_J6_bitCount_0f7a4 ml_X3_100 sta_J6_bitCount_0f7a4 ini_J6 nm_J6_bitCount_0f7a4 (by decide) ⟨Nat.le_refl _, Nat.le_refl _⟩ (Nat.le_refl _) (Nat.le_of_ble_eq_true rfl) rfl dX3_bestToJoin_78 ?_
            refine g_istore hX (pc := 81) (ls' := [(0, .ref o0), (1, .int x1), (2, .int x2), (3, .int x3), (4, .int s1), (5, .int s2), (6, .int s3), (7, .int s4), (8, .int v7), (9, .int r14), (10, .int r16)]) [1, 2, 3, 4, 5, 6, 7, 8, 9, 10, 0] dX3_bestToJoin_81 (by decide) rfl ?_
            refine g_iload hX (pc := 83) dX3_bestToJoin_83 4 rfl ?_
            refine g_iconst hX (pc := 85) (v := (-1)) dX3_bestToJoin_85 (by decide) ?_
            refine g_icmp_eq hX (pc := 86) dX3_bestToJoin_86 (tgt := 110) (by decide) (fun c17 => ?_) (fun c17 => ?_)
            · replace h := ifP c17 h
              refine g_iload hX (pc := 110) dX3_bestToJoin_110 8 rfl ?_
              refine g_istore hX (pc := 112) (ls' := [(0, .ref o0), (1, .int x1), (2, .int x2), (3, .int x3), (4, .int v7), (5, .int s2), (6, .int s3), (7, .int s4), (8, .int v7), (9, .int r14), (10, .int r16)]) [1, 2, 3, 4, 0, 5, 6, 7, 8, 9, 10] dX3_bestToJoin_112 (by decide) rfl ?_
              refine g_iload hX (pc := 114) dX3_bestToJoin_114 9 rfl ?_
              refine g_istore hX (pc := 116) (ls' := [(0, .ref o0), (1, .int x1), (2, .int x2), (3, .int x3), (4, .int v7), (5, .int r14), (6, .int s3), (7, .int s4), (8, .int v7), (9, .int r14), (10, .int r16)]) [1, 2, 3, 4, 5, 0, 6, 7, 8, 9, 10] dX3_bestToJoin_116 (by decide) rfl ?_
              refine g_iload hX (pc := 118) dX3_bestToJoin_118 10 rfl ?_
              refine g_istore hX (pc := 120) (ls' := [(0, .ref o0), (1, .int x1), (2, .int x2), (3, .int x3), (4, .int v7), (5, .int r14), (6, .int r16), (7, .int s4), (8, .int v7), (9, .int r14), (10, .int r16)]) [1, 2, 3, 4, 5, 6, 0, 7, 8, 9, 10] dX3_bestToJoin_120 (by decide) rfl ?_
              refine g_sub (ls' := [(0, .ref o0), (1, .int x1), (2, .int x2), (3, .int x3), (4, .int v7), (5, .int r14), (6, .int r16), (7, .int s4), (8, .int v7)]) [0, 1, 2, 3, 4, 5, 6, 7, 8] rfl ?_
              exact Kj10 ((v7, r14, r16)) (Option.some.inj h)
            · replace h := ifN c17 h
              refine g_iload hX (pc := 89) dX3_bestToJoin_89 9 rfl ?_
              refine g_iload hX (pc := 91) dX3_bestToJoin_91 5 rfl ?_
              refine g_icmp_gt hX (pc := 93) dX3_bestToJoin_93 (tgt := 110) (by decide) (fun c18 => ?_) (fun c18 => ?_)
              · replace h := ifP c18 h
                refine g_iload hX (pc := 110) dX3_bestToJoin_110 8 rfl ?_
                refine g_istore hX (pc := 112) (ls' := [(0, .ref o0), (1, .int x1), (2, .int x2), (3, .int x3), (4, .int v7), (5, .int s2), (6, .int s3), (7, .int s4), (8, .int v7), (9, .int r14), (10, .int r16)]) [1, 2, 3, 4, 0, 5, 6, 7, 8, 9, 10] dX3_bestToJoin_112 (by decide) rfl ?_
                refine g_iload hX (pc := 114) dX3_bestToJoin_114 9 rfl ?_
                refine g_istore hX (pc := 116) (ls' := [(0, .ref o0), (1, .int x1), (2, .int x2), (3, .int x3), (4, .int v7), (5, .int r14), (6, .int s3), (7, .int s4), (8, .int v7), (9, .int r14), (10, .int r16)]) [1, 2, 3, 4, 5, 0, 6, 7, 8, 9, 10] dX3_bestToJoin_116 (by decide) rfl ?_
                refine g_iload hX (pc := 118) dX3_bestToJoin_118 10 rfl ?_
                refine g_istore hX (pc := 120) (ls' := [(0, .ref o0), (1, .int x1), (2, .int x2), (3, .int x3), (4, .int v7), (5, .int r14), (6, .int r16), (7, .int s4), (8, .int v7), (9, .int r14), (10, .int r16)]) [1, 2, 3, 4, 5, 6, 0, 7, 8, 9, 10] dX3_bestToJoin_120 (by decide) rfl ?_
                refine g_sub (ls' := [(0, .ref o0), (1, .int x1), (2, .int x2), (3, .int x3), (4, .int v7), (5, .int r14), (6, .int r16), (7, .int s4), (8, .int v7)]) [0, 1, 2, 3, 4, 5, 6, 7, 8] rfl ?_
                exact Kj10 ((v7, r14, r16)) (Option.some.inj h)
              · replace h := ifN c18 h
                refine g_iload hX (pc := 96) dX3_bestToJoin_96 9 rfl ?_
                refine g_iload hX (pc := 98) dX3_bestToJoin_98 5 rfl ?_
                refine g_icmp_ne hX (pc := 100) dX3_bestToJoin_100 (tgt := 122) (by decide) (fun c19 => ?_) (fun c19 => ?_)
                · replace h := ifP c19 h
                  refine g_iload hX (pc := 103) dX3_bestToJoin_103 10 rfl ?_
                  refine g_iload hX (pc := 105) dX3_bestToJoin_105 6 rfl ?_
                  refine g_icmp_ge hX (pc := 107) dX3_bestToJoin_107 (tgt := 122) (by decide) (fun c20 => ?_) (fun c20 => ?_)
                  · replace h := ifP c20 h
                    refine g_iload hX (pc := 110) dX3_bestToJoin_110 8 rfl ?_
                    refine g_istore hX (pc := 112) (ls' := [(0, .ref o0), (1, .int x1), (2, .int x2), (3, .int x3), (4, .int v7), (5, .int s2), (6, .int s3), (7, .int s4), (8, .int v7), (9, .int r14), (10, .int r16)]) [1, 2, 3, 4, 0, 5, 6, 7, 8, 9, 10] dX3_bestToJoin_112 (by decide) rfl ?_
                    refine g_iload hX (pc := 114) dX3_bestToJoin_114 9 rfl ?_
                    refine g_istore hX (pc := 116) (ls' := [(0, .ref o0), (1, .int x1), (2, .int x2), (3, .int x3), (4, .int v7), (5, .int r14), (6, .int s3), (7, .int s4), (8, .int v7), (9, .int r14), (10, .int r16)]) [1, 2, 3, 4, 5, 0, 6, 7, 8, 9, 10] dX3_bestToJoin_116 (by decide) rfl ?_
                    refine g_iload hX (pc := 118) dX3_bestToJoin_118 10 rfl ?_
                    refine g_istore hX (pc := 120) (ls' := [(0, .ref o0), (1, .int x1), (2, .int x2), (3, .int x3), (4, .int v7), (5, .int r14), (6, .int r16), (7, .int s4), (8, .int v7), (9, .int r14), (10, .int r16)]) [1, 2, 3, 4, 5, 6, 0, 7, 8, 9, 10] dX3_bestToJoin_120 (by decide) rfl ?_
                    refine g_sub (ls' := [(0, .ref o0), (1, .int x1), (2, .int x2), (3, .int x3), (4, .int v7), (5, .int r14), (6, .int r16), (7, .int s4), (8, .int v7)]) [0, 1, 2, 3, 4, 5, 6, 7, 8] rfl ?_
                    exact Kj10 ((v7, r14, r16)) (Option.some.inj h)
                  · replace h := ifN c20 h
                    refine g_sub (ls' := [(0, .ref o0), (1, .int x1), (2, .int x2), (3, .int x3), (4, .int s1), (5, .int s2), (6, .int s3), (7, .int s4), (8, .int v7)]) [0, 1, 2, 3, 4, 5, 6, 7, 8] rfl ?_
                    exact Kj10 ((s1, s2, s3)) (Option.some.inj h)
                · replace h := ifN c19 h
                  refine g_sub (ls' := [(0, .ref o0), (1, .int x1), (2, .int x2), (3, .int x3), (4, .int s1), (5, .int s2), (6, .int s3), (7, .int s4), (8, .int v7)]) [0, 1, 2, 3, 4, 5, 6, 7, 8] rfl ?_
                  exact Kj10 ((s1, s2, s3)) (Option.some.inj h)
      · replace h := ifN c6 h
        obtain rfl := Option.some.inj h
        exact Kl5 ((s1, s2, s3, s4)) hwl5
  exact Ll5 kl5 ((-1)) 0 0 0 hkl5
noncomputable def f_X4_init (o0 : Nat) (z : Sh) (I : MI) : Option (Sh × MI) :=
  (nm (zNa z 6 600)).bind fun z2 =>
  (nm (clr 0 I (zs z))).bind fun I1 =>
  (nm (zSt z2 o0 0 (some (zs z)))).bind fun z4 =>
  (wf I1 o0 1 0).bind fun I6 =>
  (nm (zNw z4 2)).bind fun z8 =>
  (nm (clr 0 I6 (zs z4))).bind fun I7 =>
  (f_X2_init (zs z4) z8 I7).bind fun r11 =>
  (gd (zs z8 ≤ zs r11.1)).bind fun g12 =>
  (gd (raw r11.1 o0 4)).bind fun g13 =>
  (gd (raw r11.1 (zs z4) 2)).bind fun g14 =>
  (nm (zSt r11.1 o0 2 (some (zs z4)))).bind fun z15 =>
  (nm (zNw z15 3)).bind fun z18 =>
  (nm (clr 0 r11.2 (zs z15))).bind fun I17 =>
  (f_X3_init (zs z15) z18 I17).bind fun r21 =>
  (gd (zs z18 ≤ zs r21.1)).bind fun g22 =>
  (gd (raw r21.1 o0 4)).bind fun g23 =>
  (gd (raw r21.1 (zs z15) 3)).bind fun g24 =>
  (nm (zSt r21.1 o0 3 (some (zs z15)))).bind fun z25 =>
  (nm (zNw z25 3)).bind fun z28 =>
  (nm (clr 0 r21.2 (zs z25))).bind fun I27 =>
  (f_X3_init (zs z25) z28 I27).bind fun r31 =>
  (gd (zs z28 ≤ zs r31.1)).bind fun g32 =>
  (gd (raw r31.1 o0 4)).bind fun g33 =>
  (gd (raw r31.1 (zs z25) 3)).bind fun g34 =>
  (nm (zSt r31.1 o0 4 (some (zs z25)))).bind fun z35 =>
  (nm (zNw z35 0)).bind fun z38 =>
  (nm (clr 0 r31.2 (zs z35))).bind fun I37 =>
  (f_X0_init (zs z35) z38 I37).bind fun r41 =>
  (gd (zs z38 ≤ zs r41.1)).bind fun g42 =>
  (gd (raw r41.1 o0 4)).bind fun g43 =>
  (gd (raw r41.1 (zs z35) 0)).bind fun g44 =>
  (nm (zSt r41.1 o0 5 (some (zs z35)))).bind fun z45 =>
  (nm (zNw z45 1)).bind fun z48 =>
  (nm (clr 0 r41.2 (zs z45))).bind fun I47 =>
  (f_X1_init (zs z45) z48 I47).bind fun r51 =>
  (gd (zs z48 ≤ zs r51.1)).bind fun g52 =>
  (gd (raw r51.1 o0 4)).bind fun g53 =>
  (gd (raw r51.1 (zs z45) 1)).bind fun g54 =>
  (nm (zSt r51.1 o0 6 (some (zs z45)))).bind fun z55 =>
  (nm (zNa z55 10 12)).bind fun z57 =>
  (nm (zSt z57 o0 7 (some (zs z55)))).bind fun z59 =>
  (wf r51.2 o0 8 0).bind fun I61 =>
  (wf I61 o0 9 0).bind fun I62 =>
  (nm (zNa z59 10 2)).bind fun z63 =>
  (nm (zSt z63 o0 10 (some (zs z59)))).bind fun z65 =>
  (nm (zNa z65 9 2)).bind fun z68 =>
  (nm (clr 0 I62 (zs z65))).bind fun I67 =>
  (nm (zSt z68 o0 11 (some (zs z65)))).bind fun z70 =>
  (nm (zSt z70 o0 12 none)).bind fun z72 =>
  some ((z72, I67))
theorem nm_X4_init : yX4_init.cls ≠ "java/lang/invoke/MethodHandle" ∧ yX4_init.cls ≠ "java/lang/invoke/VarHandle" ∧ (parseMethodDescriptor yX4_init.desc).map (fun d => d.parameters.length) = some 0 := by decide +kernel
set_option maxRecDepth 100000 in
set_option maxHeartbeats 4000000 in
theorem ct_X4_init {E : Ev} {d : Nat} {z : Sh} {J : MJ} {I : MI} {o0 : Nat} {zz : Sh} {Iz : MI} (ho0 : raw z o0 4) (h : f_X4_init o0 z I = some ((zz, Iz))) {ad av : Nat → Nat} (hE : EvOk E ad av) : Ct E (d + 2) yX4_init cX4_init 1 none 45 3626 [.ref o0] z J I none zz J Iz := by
  unfold f_X4_init at h
  refine Ct.of (own := RX4) (ls := [(0, .ref o0)]) (by decide) rfl (Nat.le_of_ble_eq_true rfl) rfl ?_
  intro X hr0 hnm hX
  refine g_aload_n hX (pc := 0) (i := 0) dX4_init_0 rfl 0 rfl ?_
  refine g_objInit hX (pc := 1) (d := d + 1) hr0 ml_X4_3 im_java_lang_Object__init__3 co_objInit (by exact Nat.le_of_ble_eq_true rfl) dX4_init_1 ?_
  refine g_aload_n hX (pc := 4) (i := 0) dX4_init_4 rfl 0 rfl ?_
  refine g_sipush hX (pc := 5) (v := 600) dX4_init_5 (by decide) ?_
  refine g_newA6 hX (pc := 8) hr0 (N := 600) (by decide) (by decide) (by decide) (by decide) dX4_init_8 ?_
  obtain ⟨z2, e_z2, h⟩ := bnd h
  refine g_nmz e_z2 ?_
  have hu3 := raw.nm e_z2 (ho0.na 6 600)
  obtain ⟨I1, e_I1, h⟩ := bnd h
  refine g_nmM e_I1 ?_
  refine pr4_0 hX (pc := 10) hu3 fl_X4_9 hnm rfl dX4_init_10 ?_
  obtain ⟨z4, e_z4, h⟩ := bnd h
  refine g_nmz e_z4 ?_
  have hu5 := raw.nm e_z4 (hu3.st o0 0 (some (zs z)))
  refine g_aload_n hX (pc := 13) (i := 0) dX4_init_13 rfl 0 rfl ?_
  refine g_iconst hX (pc := 14) (v := 0) dX4_init_14 (by decide) ?_
  obtain ⟨I6, e_I6, h⟩ := bnd h
  refine pi4_1 hX (pc := 15) hu5 fl_X4_13 dX4_init_15 e_I6 ?_
  refine g_aload_n hX (pc := 18) (i := 0) dX4_init_18 rfl 0 rfl ?_
  refine g_newO hX (pc := 19) hr0 2 (by decide) rfl rfl tyX2 tyX2_ok inl_X2 (J' := J) (I' := clr 0 I6 (zs z4)) (df2 _ _ _) (fun _ _ => rfl) (fun b hb => clr_ne 0 _ hb) cl_X4_17 ins_X2 ini_X2 (by decide) dX4_init_19 ?_
  obtain ⟨z8, e_z8, h⟩ := bnd h
  refine g_nmz e_z8 ?_
  have hu9 := raw.nm e_z8 (hu5.nw 2)
  have hu10 := raw.nm e_z8 (raw.new (z := z4) 2)
  obtain ⟨I7, e_I7, h⟩ := bnd h
  refine g_nmM e_I7 ?_
  refine g_dup hX (pc := 22) dX4_init_22 rfl ?_
  obtain ⟨r11, e_r11, h⟩ := bnd h
  obtain ⟨g12, e_g12, h⟩ := bnd h
  refine g_callIN hX (pc := 23) (d := d + 1) hr0 [] (host := RX4) (ct_X2_init (d := d + 0) hu10 e_r11) rfl co_X2_init (by decide) im_X2_init ini_X2 nm_X2_init (by decide) (by decide) (gd_some e_g12) (Nat.le_of_ble_eq_true rfl) rfl dX4_init_23 ?_
  obtain ⟨g13, e_g13, h⟩ := bnd h
  obtain ⟨g14, e_g14, h⟩ := bnd h
  refine pr4_2 hX (pc := 26) (gd_some e_g13) fl_X4_20 hnm rfl dX4_init_26 ?_
  obtain ⟨z15, e_z15, h⟩ := bnd h
  refine g_nmz e_z15 ?_
  have hu16 := raw.nm e_z15 ((gd_some e_g13).st o0 2 (some (zs z4)))
  refine g_aload_n hX (pc := 29) (i := 0) dX4_init_29 rfl 0 rfl ?_
  refine g_newO hX (pc := 30) hr0 3 (by decide) rfl rfl tyX3 tyX3_ok inl_X3 (J' := J) (I' := clr 0 r11.2 (zs z15)) (df3 _ _ _) (fun _ _ => rfl) (fun b hb => clr_ne 0 _ hb) cl_X4_24 ins_X3 ini_X3 (by decide) dX4_init_30 ?_
  obtain ⟨z18, e_z18, h⟩ := bnd h
  refine g_nmz e_z18 ?_
  have hu19 := raw.nm e_z18 (hu16.nw 3)
  have hu20 := raw.nm e_z18 (raw.new (z := z15) 3)
  obtain ⟨I17, e_I17, h⟩ := bnd h
  refine g_nmM e_I17 ?_
  refine g_dup hX (pc := 33) dX4_init_33 rfl ?_
  obtain ⟨r21, e_r21, h⟩ := bnd h
  obtain ⟨g22, e_g22, h⟩ := bnd h
  refine g_callIN hX (pc := 34) (d := d + 1) hr0 [] (host := RX4) (ct_X3_init (d := d + 0) hu20 e_r21) rfl co_X3_init (by decide) im_X3_init ini_X3 nm_X3_init (by decide) (by decide) (gd_some e_g22) (Nat.le_of_ble_eq_true rfl) rfl dX4_init_34 ?_
  obtain ⟨g23, e_g23, h⟩ := bnd h
  obtain ⟨g24, e_g24, h⟩ := bnd h
  refine pr4_3 hX (pc := 37) (gd_some e_g23) fl_X4_27 dX4_init_37 ?_
  obtain ⟨z25, e_z25, h⟩ := bnd h
  refine g_nmz e_z25 ?_
  have hu26 := raw.nm e_z25 ((gd_some e_g23).st o0 3 (some (zs z15)))
  refine g_aload_n hX (pc := 40) (i := 0) dX4_init_40 rfl 0 rfl ?_
  refine g_newO hX (pc := 41) hr0 3 (by decide) rfl rfl tyX3 tyX3_ok inl_X3 (J' := J) (I' := clr 0 r21.2 (zs z25)) (df3 _ _ _) (fun _ _ => rfl) (fun b hb => clr_ne 0 _ hb) cl_X4_24 ins_X3 ini_X3 (by decide) dX4_init_41 ?_
  obtain ⟨z28, e_z28, h⟩ := bnd h
  refine g_nmz e_z28 ?_
  have hu29 := raw.nm e_z28 (hu26.nw 3)
  have hu30 := raw.nm e_z28 (raw.new (z := z25) 3)
  obtain ⟨I27, e_I27, h⟩ := bnd h
  refine g_nmM e_I27 ?_
  refine g_dup hX (pc := 44) dX4_init_44 rfl ?_
  obtain ⟨r31, e_r31, h⟩ := bnd h
  obtain ⟨g32, e_g32, h⟩ := bnd h
  refine g_callIN hX (pc := 45) (d := d + 1) hr0 [] (host := RX4) (ct_X3_init (d := d + 0) hu30 e_r31) rfl co_X3_init (by decide) im_X3_init ini_X3 nm_X3_init (by decide) (by decide) (gd_some e_g32) (Nat.le_of_ble_eq_true rfl) rfl dX4_init_45 ?_
  obtain ⟨g33, e_g33, h⟩ := bnd h
  obtain ⟨g34, e_g34, h⟩ := bnd h
  refine pr4_4 hX (pc := 48) (gd_some e_g33) fl_X4_31 dX4_init_48 ?_
  obtain ⟨z35, e_z35, h⟩ := bnd h
  refine g_nmz e_z35 ?_
  have hu36 := raw.nm e_z35 ((gd_some e_g33).st o0 4 (some (zs z25)))
  refine g_aload_n hX (pc := 51) (i := 0) dX4_init_51 rfl 0 rfl ?_
  refine g_newO hX (pc := 52) hr0 0 (by decide) rfl rfl tyX0 tyX0_ok inl_X0 (J' := J) (I' := clr 0 r31.2 (zs z35)) (df0 _ _ _) (fun _ _ => rfl) (fun b hb => clr_ne 0 _ hb) cl_X4_34 ins_X0 ini_X0 (by decide) dX4_init_52 ?_
  obtain ⟨z38, e_z38, h⟩ := bnd h
  refine g_nmz e_z38 ?_
  have hu39 := raw.nm e_z38 (hu36.nw 0)
  have hu40 := raw.nm e_z38 (raw.new (z := z35) 0)
  obtain ⟨I37, e_I37, h⟩ := bnd h
  refine g_nmM e_I37 ?_
  refine g_dup hX (pc := 55) dX4_init_55 rfl ?_
  obtain ⟨r41, e_r41, h⟩ := bnd h
  obtain ⟨g42, e_g42, h⟩ := bnd h
  refine g_callI hX (pc := 56) (d := d + 1) hr0 [] (ct_X0_init (d := d + 0) hu40 e_r41) rfl co_X0_init ml_X4_36 im_X0_init ini_X0 nm_X0_init (by decide) (by decide) (gd_some e_g42) (Nat.le_of_ble_eq_true rfl) rfl dX4_init_56 ?_
  obtain ⟨g43, e_g43, h⟩ := bnd h
  obtain ⟨g44, e_g44, h⟩ := bnd h
  refine pr4_5 hX (pc := 59) (gd_some e_g43) fl_X4_37 hnm rfl dX4_init_59 ?_
  obtain ⟨z45, e_z45, h⟩ := bnd h
  refine g_nmz e_z45 ?_
  have hu46 := raw.nm e_z45 ((gd_some e_g43).st o0 5 (some (zs z35)))
  refine g_aload_n hX (pc := 62) (i := 0) dX4_init_62 rfl 0 rfl ?_
  refine g_newO hX (pc := 63) hr0 1 (by decide) rfl rfl tyX1 tyX1_ok inl_X1 (J' := J) (I' := clr 0 r41.2 (zs z45)) (df1 _ _ _) (fun _ _ => rfl) (fun b hb => clr_ne 0 _ hb) cl_X4_41 ins_X1 ini_X1 (by decide) dX4_init_63 ?_
  obtain ⟨z48, e_z48, h⟩ := bnd h
  refine g_nmz e_z48 ?_
  have hu49 := raw.nm e_z48 (hu46.nw 1)
  have hu50 := raw.nm e_z48 (raw.new (z := z45) 1)
  obtain ⟨I47, e_I47, h⟩ := bnd h
  refine g_nmM e_I47 ?_
  refine g_dup hX (pc := 66) dX4_init_66 rfl ?_
  obtain ⟨r51, e_r51, h⟩ := bnd h
  obtain ⟨g52, e_g52, h⟩ := bnd h
  refine g_callIN hX (pc := 67) (d := d + 1) hr0 [] (host := RX4) (ct_X1_init (d := d + 0) hu50 e_r51) rfl co_X1_init (by decide) im_X1_init ini_X1 nm_X1_init (by decide) (by decide) (gd_some e_g52) (Nat.le_of_ble_eq_true rfl) rfl dX4_init_67 ?_
  obtain ⟨g53, e_g53, h⟩ := bnd h
  obtain ⟨g54, e_g54, h⟩ := bnd h
  refine pr4_6 hX (pc := 70) (gd_some e_g53) fl_X4_44 hnm rfl dX4_init_70 ?_
  obtain ⟨z55, e_z55, h⟩ := bnd h
  refine g_nmz e_z55 ?_
  have hu56 := raw.nm e_z55 ((gd_some e_g53).st o0 6 (some (zs z45)))
  refine g_aload_n hX (pc := 73) (i := 0) dX4_init_73 rfl 0 rfl ?_
  refine g_bipush hX (pc := 74) (v := 12) dX4_init_74 (by decide) ?_
  refine g_newQ hX (pc := 76) hr0 (hE.ao hX) (N := 12) (by decide) (by decide) (by decide) cl_X4_34 (by decide) dX4_init_76 ?_
  obtain ⟨z57, e_z57, h⟩ := bnd h
  refine g_nmz e_z57 ?_
  have hu58 := raw.nm e_z57 (hu56.na 10 12)
  refine pr4_7 hX (pc := 79) hu58 fl_X4_48 hnm rfl dX4_init_79 ?_
  obtain ⟨z59, e_z59, h⟩ := bnd h
  refine g_nmz e_z59 ?_
  have hu60 := raw.nm e_z59 (hu58.st o0 7 (some (zs z55)))
  refine g_aload_n hX (pc := 82) (i := 0) dX4_init_82 rfl 0 rfl ?_
  refine g_iconst hX (pc := 83) (v := 0) dX4_init_83 (by decide) ?_
  obtain ⟨I61, e_I61, h⟩ := bnd h
  refine pi4_8 hX (pc := 84) hu60 fl_X4_52 dX4_init_84 e_I61 ?_
  refine g_aload_n hX (pc := 87) (i := 0) dX4_init_87 rfl 0 rfl ?_
  refine g_iconst hX (pc := 88) (v := 0) dX4_init_88 (by decide) ?_
  obtain ⟨I62, e_I62, h⟩ := bnd h
  refine pi4_9 hX (pc := 89) hu60 fl_X4_55 dX4_init_89 e_I62 ?_
  refine g_aload_n hX (pc := 92) (i := 0) dX4_init_92 rfl 0 rfl ?_
  refine g_iconst hX (pc := 93) (v := 2) dX4_init_93 (by decide) ?_
  refine g_newQ hX (pc := 94) hr0 (hE.ao hX) (N := 2) (by decide) (by decide) (by decide) cl_X4_34 (by decide) dX4_init_94 ?_
  obtain ⟨z63, e_z63, h⟩ := bnd h
  refine g_nmz e_z63 ?_
  have hu64 := raw.nm e_z63 (hu60.na 10 2)
  refine pr4_10 hX (pc := 97) hu64 fl_X4_58 hnm rfl dX4_init_97 ?_
  obtain ⟨z65, e_z65, h⟩ := bnd h
  refine g_nmz e_z65 ?_
  have hu66 := raw.nm e_z65 (hu64.st o0 10 (some (zs z59)))
  refine g_aload_n hX (pc := 100) (i := 0) dX4_init_100 rfl 0 rfl ?_
  refine g_iconst hX (pc := 101) (v := 2) dX4_init_101 (by decide) ?_
  refine g_newA9 hX (pc := 102) hr0 (N := 2) (by decide) (by decide) (by decide) (by decide) dX4_init_102 ?_
  obtain ⟨z68, e_z68, h⟩ := bnd h
  refine g_nmz e_z68 ?_
  have hu69 := raw.nm e_z68 (hu66.na 9 2)
  obtain ⟨I67, e_I67, h⟩ := bnd h
  refine g_nmM e_I67 ?_
  refine pr4_11 hX (pc := 104) hu69 fl_X4_61 hnm rfl dX4_init_104 ?_
  obtain ⟨z70, e_z70, h⟩ := bnd h
  refine g_nmz e_z70 ?_
  have hu71 := raw.nm e_z70 (hu69.st o0 11 (some (zs z65)))
  refine g_aload_n hX (pc := 107) (i := 0) dX4_init_107 rfl 0 rfl ?_
  refine g_aconst_null hX (pc := 108) dX4_init_108 ?_
  refine pr4_12N hX (pc := 109) hu71 fl_X4_65 dX4_init_109 ?_
  obtain ⟨z72, e_z72, h⟩ := bnd h
  refine g_nmz e_z72 ?_
  have hu73 := raw.nm e_z72 (hu71.st o0 12 none)
  replace h := Option.some.inj h
  obtain ⟨rfl, rfl⟩ := Prod.mk.inj h
  exact g_return hX (by decide) (by decide) dX4_init_112
noncomputable def f_X4_keep (o0 t0 u0 : Nat) (x1 : Int32) (x2 : Int32) (z : Sh) (I : MI) : Option (Int32 × Sh × MI) :=
  if x1 < 0 then
    some ((0, z, I))
  else
    if x1 < 2 then
      if x2 = 0 then
        (rd 2 (zR z (o0 + 44)) x1).bind fun q4 =>
        oc q4 (
          (nm (zNw z 0)).bind fun z6 =>
          (nm (clr 0 I (zs z))).bind fun I5 =>
          (gd (oX4 z6 o0 t0 u0)).bind fun g7 =>
          (f_X0_init (zs z) z6 I5).bind fun r9 =>
          (gd (zs z6 ≤ zs r9.1)).bind fun g10 =>
          (gd (oX4 r9.1 o0 t0 u0)).bind fun g11 =>
          (gd (raw r9.1 (zs z) 0)).bind fun g12 =>
          (wz 2 r9.1 (o0 + 44) x1 (zs z)).bind fun z13 =>
          (gd (oX4 z13 o0 t0 u0)).bind fun g14 =>
          (gd (raw z13 (zs z) 0)).bind fun g15 =>
          (gd (oX0 z13 (zs z))).bind fun g16 =>
          (f_X0_copyFrom (zs z) (o0 + 24) r9.2).bind fun r17 =>
          (wr 2 r17 (o0 + 45) x1 1).bind fun I18 =>
          some ((1, z13, I18))) (fun a19 =>
          (gd (oX0 z a19)).bind fun g20 =>
          (f_X0_copyFrom a19 (o0 + 24) I).bind fun r21 =>
          (wr 2 r21 (o0 + 45) x1 1).bind fun I22 =>
          some ((1, z, I22)))
      else
        (f_X4_goBackTo o0 t0 u0 x1 z I).bind fun r23 =>
        (gb r23.1).bind fun b24 =>
        some ((r23.1, z, r23.2))
    else
      some ((0, z, I))
theorem nm_X4_keep : yX4_keep.cls ≠ "java/lang/invoke/MethodHandle" ∧ yX4_keep.cls ≠ "java/lang/invoke/VarHandle" ∧ (parseMethodDescriptor yX4_keep.desc).map (fun d => d.parameters.length) = some 2 := by decide +kernel
set_option maxRecDepth 100000 in
set_option maxHeartbeats 4000000 in
theorem ct_X4_keep {E : Ev} {d : Nat} {z : Sh} {J : MJ} {I : MI} {o0 t0 u0 : Nat} {x1 : Int32} {x2 : Int32} {rr : Int32} {zz : Sh} {Iz : MI} (ho0 : oX4 z o0 t0 u0) (h : f_X4_keep o0 t0 u0 x1 x2 z I = some ((rr, zz, Iz))) : Ct E (d + 3) yX4_keep cX4_keep 4 (some .boolean) 10 2127 [.ref o0, .int x1, .int x2] z J I (some (.int rr)) zz J Iz := by
  unfold f_X4_keep at h
  refine Ct.of (own := RX4) (ls := [(0, .ref o0), (1, .int x1), (2, .int x2)]) (by decide) rfl (Nat.le_of_ble_eq_true rfl) rfl ?_
  intro X hr0 hnm hX
  refine g_iload_n hX (pc := 0) (i := 1) dX4_keep_0 rfl 1 rfl ?_
  refine g_if_lt hX (pc := 1) dX4_keep_1 (tgt := 9) (by decide) (fun c1 => ?_) (fun c1 => ?_)
  · replace h := ifP c1 h
    refine g_iconst hX (pc := 9) (v := 0) dX4_keep_9 (by decide) ?_
    replace h := Option.some.inj h
    obtain ⟨rfl, hT0⟩ := Prod.mk.inj h
    obtain ⟨rfl, rfl⟩ := Prod.mk.inj hT0
    exact g_zreturn hX (Or.inl rfl) (by decide) (by decide) dX4_keep_10
  · replace h := ifN c1 h
    refine g_iload_n hX (pc := 4) (i := 1) dX4_keep_4 rfl 1 rfl ?_
    refine g_iconst hX (pc := 5) (v := 2) dX4_keep_5 (by decide) ?_
    refine g_icmp_lt hX (pc := 6) dX4_keep_6 (tgt := 11) (by decide) (fun c2 => ?_) (fun c2 => ?_)
    · replace h := ifP c2 h
      refine g_iload_n hX (pc := 11) (i := 2) dX4_keep_11 rfl 2 rfl ?_
      refine g_if_eq hX (pc := 12) dX4_keep_12 (tgt := 21) (by decide) (fun c3 => ?_) (fun c3 => ?_)
      · replace h := ifP c3 h
        refine g_aload_n hX (pc := 21) (i := 0) dX4_keep_21 rfl 0 rfl ?_
        refine gf4_10 hX (pc := 22) ho0 fl_X4_58 dX4_keep_22 ?_
        refine g_iload_n hX (pc := 25) (i := 1) dX4_keep_25 rfl 1 rfl ?_
        obtain ⟨q4, e_q4, h⟩ := bnd h
        refine g_aaloadE hX (pc := 26) (s4_10 ho0).1 (s4_10 ho0).2.1 (s4_10 ho0).2.2.1 e_q4 dX4_keep_26 ?_
        cases q4 with
        | none =>
          replace h := ocN h
          refine g_astore_nN hX (pc := 27) (i := 3) (ls' := [(0, .ref o0), (1, .int x1), (2, .int x2), (3, .null)]) [1, 2, 3, 0] dX4_keep_27 rfl (by decide) rfl ?_
          refine g_aload_nN hX (pc := 28) (i := 3) dX4_keep_28 rfl 3 rfl ?_
          refine g_ifnonnullN hX (pc := 29) dX4_keep_29 ?_
          refine g_newO hX (pc := 32) hr0 0 (by decide) rfl rfl tyX0 tyX0_ok inl_X0 (J' := J) (I' := clr 0 I (zs z)) (df0 _ _ _) (fun _ _ => rfl) (fun b hb => clr_ne 0 _ hb) cl_X4_34 ins_X0 ini_X0 (by decide) dX4_keep_32 ?_
          obtain ⟨z6, e_z6, h⟩ := bnd h
          refine g_nmz e_z6 ?_
          have hu8 := raw.nm e_z6 (raw.new (z := z) 0)
          obtain ⟨I5, e_I5, h⟩ := bnd h
          refine g_nmM e_I5 ?_
          obtain ⟨g7, e_g7, h⟩ := bnd h
          refine g_dup hX (pc := 35) dX4_keep_35 rfl ?_
          obtain ⟨r9, e_r9, h⟩ := bnd h
          obtain ⟨g10, e_g10, h⟩ := bnd h
          refine g_callI hX (pc := 36) (d := d + 2) hr0 [] (ct_X0_init (d := d + 1) hu8 e_r9) rfl co_X0_init ml_X4_36 im_X0_init ini_X0 nm_X0_init (by decide) (by decide) (gd_some e_g10) (Nat.le_of_ble_eq_true rfl) rfl dX4_keep_36 ?_
          obtain ⟨g11, e_g11, h⟩ := bnd h
          obtain ⟨g12, e_g12, h⟩ := bnd h
          refine g_astore_n hX (pc := 39) (i := 3) (ls' := [(0, .ref o0), (1, .int x1), (2, .int x2), (3, .ref (zs z))]) [1, 2, 3, 0] dX4_keep_39 rfl (by decide) rfl ?_
          refine g_aload_n hX (pc := 40) (i := 0) dX4_keep_40 rfl 0 rfl ?_
          refine gf4_10 hX (pc := 41) (gd_some e_g11) fl_X4_58 dX4_keep_41 ?_
          refine g_iload_n hX (pc := 44) (i := 1) dX4_keep_44 rfl 1 rfl ?_
          refine g_aload_n hX (pc := 45) (i := 3) dX4_keep_45 rfl 3 rfl ?_
          obtain ⟨z13, e_z13, h⟩ := bnd h
          refine g_aastoreE hX (pc := 46) (s4_10 (gd_some e_g11)).1 (s4_10 (gd_some e_g11)).2.1 (s4_10 (gd_some e_g11)).2.2.1 (gd_some e_g12).1 (gd_some e_g12).2.1 e_z13 dX4_keep_46 ?_
          obtain ⟨g14, e_g14, h⟩ := bnd h
          obtain ⟨g15, e_g15, h⟩ := bnd h
          refine g_aload_n hX (pc := 47) (i := 3) dX4_keep_47 rfl 3 rfl ?_
          refine g_aload_n hX (pc := 48) (i := 0) dX4_keep_48 rfl 0 rfl ?_
          refine gf4_5 hX (pc := 49) (gd_some e_g14) fl_X4_37 dX4_keep_49 ?_
          obtain ⟨g16, e_g16, h⟩ := bnd h
          obtain ⟨r17, e_r17, h⟩ := bnd h
          refine g_callVv hX (pc := 52) (d := d + 2) hr0 [.ref (o0 + 24)] (c := 0) (ct_X0_copyFrom (d := d + 1) (gd_some e_g16) (s4_5 (gd_some e_g14)).1 e_r17) (gd_some e_g16).1.1 (gd_some e_g16).1.2 (by decide) rfl co_X0_copyFrom ml_X4_241 im_X0_copyFrom sl_X0_copyFrom ini_X0 nm_X0_copyFrom (by decide) (by decide) (Nat.le_refl _) (Nat.le_of_ble_eq_true rfl) rfl dX4_keep_52 ?_
          refine g_aload_n hX (pc := 55) (i := 0) dX4_keep_55 rfl 0 rfl ?_
          refine gf4_11 hX (pc := 56) (gd_some e_g14) fl_X4_61 dX4_keep_56 ?_
          refine g_iload_n hX (pc := 59) (i := 1) dX4_keep_59 rfl 1 rfl ?_
          refine g_iconst hX (pc := 60) (v := 1) dX4_keep_60 (by decide) ?_
          obtain ⟨I18, e_I18, h⟩ := bnd h
          refine g_zastoreE hX (pc := 61) (s4_11 (gd_some e_g14)).1 (s4_11 (gd_some e_g14)).2.1 (s4_11 (gd_some e_g14)).2.2.1 e_I18 (by decide) dX4_keep_61 ?_
          refine g_iconst hX (pc := 62) (v := 1) dX4_keep_62 (by decide) ?_
          replace h := Option.some.inj h
          obtain ⟨rfl, hT0⟩ := Prod.mk.inj h
          obtain ⟨rfl, rfl⟩ := Prod.mk.inj hT0
          exact g_zreturn hX (Or.inr rfl) (by decide) (by decide) dX4_keep_63
        | some a19 =>
          replace h := ocS h
          obtain ⟨g20, e_g20, h⟩ := bnd h
          refine g_astore_n hX (pc := 27) (i := 3) (ls' := [(0, .ref o0), (1, .int x1), (2, .int x2), (3, .ref a19)]) [1, 2, 3, 0] dX4_keep_27 rfl (by decide) rfl ?_
          refine g_aload_n hX (pc := 28) (i := 3) dX4_keep_28 rfl 3 rfl ?_
          refine g_ifnonnull hX (pc := 29) (tgt := 47) dX4_keep_29 (by decide) ?_
          refine g_aload_n hX (pc := 47) (i := 3) dX4_keep_47 rfl 3 rfl ?_
          refine g_aload_n hX (pc := 48) (i := 0) dX4_keep_48 rfl 0 rfl ?_
          refine gf4_5 hX (pc := 49) ho0 fl_X4_37 dX4_keep_49 ?_
          obtain ⟨r21, e_r21, h⟩ := bnd h
          refine g_callVv hX (pc := 52) (d := d + 2) hr0 [.ref (o0 + 24)] (c := 0) (ct_X0_copyFrom (d := d + 1) (gd_some e_g20) (s4_5 ho0).1 e_r21) (gd_some e_g20).1.1 (gd_some e_g20).1.2 (by decide) rfl co_X0_copyFrom ml_X4_241 im_X0_copyFrom sl_X0_copyFrom ini_X0 nm_X0_copyFrom (by decide) (by decide) (Nat.le_refl _) (Nat.le_of_ble_eq_true rfl) rfl dX4_keep_52 ?_
          refine g_aload_n hX (pc := 55) (i := 0) dX4_keep_55 rfl 0 rfl ?_
          refine gf4_11 hX (pc := 56) ho0 fl_X4_61 dX4_keep_56 ?_
          refine g_iload_n hX (pc := 59) (i := 1) dX4_keep_59 rfl 1 rfl ?_
          refine g_iconst hX (pc := 60) (v := 1) dX4_keep_60 (by decide) ?_
          obtain ⟨I22, e_I22, h⟩ := bnd h
          refine g_zastoreE hX (pc := 61) (s4_11 ho0).1 (s4_11 ho0).2.1 (s4_11 ho0).2.2.1 e_I22 (by decide) dX4_keep_61 ?_
          refine g_iconst hX (pc := 62) (v := 1) dX4_keep_62 (by decide) ?_
          replace h := Option.some.inj h
          obtain ⟨rfl, hT0⟩ := Prod.mk.inj h
          obtain ⟨rfl, rfl⟩ := Prod.mk.inj hT0
          exact g_zreturn hX (Or.inr rfl) (by decide) (by decide) dX4_keep_63
      · replace h := ifN c3 h
        refine g_aload_n hX (pc := 15) (i := 0) dX4_keep_15 rfl 0 rfl ?_
        refine g_iload_n hX (pc := 16) (i := 1) dX4_keep_16 rfl 1 rfl ?_
        obtain ⟨r23, e_r23, h⟩ := bnd h
        refine g_callVi hX (pc := 17) (d := d + 2) hr0 [.int x1] (c := 4) (ct_X4_goBackTo (d := d + 0) ho0 e_r23) ho0.1.1 ho0.1.2 (by decide) rfl co_X4_goBackTo ml_X4_245 im_X4_goBackTo sl_X4_goBackTo ini_X4 nm_X4_goBackTo (by decide) (by decide) (Nat.le_refl _) (Nat.le_of_ble_eq_true rfl) rfl dX4_keep_17 ?_
        obtain ⟨b24, e_b24, h⟩ := bnd h
        replace h := Option.some.inj h
        obtain ⟨rfl, hT0⟩ := Prod.mk.inj h
        obtain ⟨rfl, rfl⟩ := Prod.mk.inj hT0
        exact g_zreturn hX (gb_some e_b24).1 (by decide) (by decide) dX4_keep_20
    · replace h := ifN c2 h
      refine g_iconst hX (pc := 9) (v := 0) dX4_keep_9 (by decide) ?_
      replace h := Option.some.inj h
      obtain ⟨rfl, hT0⟩ := Prod.mk.inj h
      obtain ⟨rfl, rfl⟩ := Prod.mk.inj hT0
      exact g_zreturn hX (Or.inl rfl) (by decide) (by decide) dX4_keep_10
noncomputable def f_X4_remember (o0 t0 u0 : Nat) (z : Sh) (I : MI) : Option (Sh × MI) :=
  (rd 12 (zR z (o0 + 43)) (I o0 8)).bind fun q1 =>
  oc q1 (
    (nm (zNw z 0)).bind fun z3 =>
    (nm (clr 0 I (zs z))).bind fun I2 =>
    (gd (oX4 z3 o0 t0 u0)).bind fun g4 =>
    (f_X0_init (zs z) z3 I2).bind fun r6 =>
    (gd (zs z3 ≤ zs r6.1)).bind fun g7 =>
    (gd (oX4 r6.1 o0 t0 u0)).bind fun g8 =>
    (gd (raw r6.1 (zs z) 0)).bind fun g9 =>
    (wz 12 r6.1 (o0 + 43) (r6.2 o0 8) (zs z)).bind fun z10 =>
    (gd (oX4 z10 o0 t0 u0)).bind fun g11 =>
    (gd (raw z10 (zs z) 0)).bind fun g12 =>
    (gd (oX0 z10 (zs z))).bind fun g13 =>
    (f_X0_copyFrom (zs z) (o0 + 24) r6.2).bind fun r14 =>
    (wf r14 o0 8 (((r14 o0 8) + 1) - ((r14 o0 8) + 1) / 12 * 12)).bind fun I15 =>
    (wf I15 o0 9 (imin ((I15 o0 9) + 1) 12)).bind fun I16 =>
    some ((z10, I16))) (fun a17 =>
    (gd (oX0 z a17)).bind fun g18 =>
    (f_X0_copyFrom a17 (o0 + 24) I).bind fun r19 =>
    (wf r19 o0 8 (((r19 o0 8) + 1) - ((r19 o0 8) + 1) / 12 * 12)).bind fun I20 =>
    (wf I20 o0 9 (imin ((I20 o0 9) + 1) 12)).bind fun I21 =>
    some ((z, I21)))
theorem nm_X4_remember : yX4_remember.cls ≠ "java/lang/invoke/MethodHandle" ∧ yX4_remember.cls ≠ "java/lang/invoke/VarHandle" ∧ (parseMethodDescriptor yX4_remember.desc).map (fun d => d.parameters.length) = some 0 := by decide +kernel
set_option maxRecDepth 100000 in
set_option maxHeartbeats 4000000 in
theorem ct_X4_remember {E : Ev} {d : Nat} {z : Sh} {J : MJ} {I : MI} {o0 t0 u0 : Nat} {zz : Sh} {Iz : MI} (ho0 : oX4 z o0 t0 u0) (h : f_X4_remember o0 t0 u0 z I = some ((zz, Iz))) : Ct E (d + 2) yX4_remember cX4_remember 2 none 10 2127 [.ref o0] z J I none zz J Iz := by
  unfold f_X4_remember at h
  refine Ct.of (own := RX4) (ls := [(0, .ref o0)]) (by decide) rfl (Nat.le_of_ble_eq_true rfl) rfl ?_
  intro X hr0 hnm hX
  refine g_aload_n hX (pc := 0) (i := 0) dX4_remember_0 rfl 0 rfl ?_
  refine gf4_7 hX (pc := 1) ho0 fl_X4_48 dX4_remember_1 ?_
  refine g_aload_n hX (pc := 4) (i := 0) dX4_remember_4 rfl 0 rfl ?_
  refine gf4_8 hX (pc := 5) ho0 fl_X4_52 dX4_remember_5 ?_
  obtain ⟨q1, e_q1, h⟩ := bnd h
  refine g_aaloadE hX (pc := 8) (s4_7 ho0).1 (s4_7 ho0).2.1 (s4_7 ho0).2.2.1 e_q1 dX4_remember_8 ?_
  cases q1 with
  | none =>
    replace h := ocN h
    refine g_astore_nN hX (pc := 9) (i := 1) (ls' := [(0, .ref o0), (1, .null)]) [1, 0] dX4_remember_9 rfl (by decide) rfl ?_
    refine g_aload_nN hX (pc := 10) (i := 1) dX4_remember_10 rfl 1 rfl ?_
    refine g_ifnonnullN hX (pc := 11) dX4_remember_11 ?_
    refine g_newO hX (pc := 14) hr0 0 (by decide) rfl rfl tyX0 tyX0_ok inl_X0 (J' := J) (I' := clr 0 I (zs z)) (df0 _ _ _) (fun _ _ => rfl) (fun b hb => clr_ne 0 _ hb) cl_X4_34 ins_X0 ini_X0 (by decide) dX4_remember_14 ?_
    obtain ⟨z3, e_z3, h⟩ := bnd h
    refine g_nmz e_z3 ?_
    have hu5 := raw.nm e_z3 (raw.new (z := z) 0)
    obtain ⟨I2, e_I2, h⟩ := bnd h
    refine g_nmM e_I2 ?_
    obtain ⟨g4, e_g4, h⟩ := bnd h
    refine g_dup hX (pc := 17) dX4_remember_17 rfl ?_
    obtain ⟨r6, e_r6, h⟩ := bnd h
    obtain ⟨g7, e_g7, h⟩ := bnd h
    refine g_callI hX (pc := 18) (d := d + 1) hr0 [] (ct_X0_init (d := d + 0) hu5 e_r6) rfl co_X0_init ml_X4_36 im_X0_init ini_X0 nm_X0_init (by decide) (by decide) (gd_some e_g7) (Nat.le_of_ble_eq_true rfl) rfl dX4_remember_18 ?_
    obtain ⟨g8, e_g8, h⟩ := bnd h
    obtain ⟨g9, e_g9, h⟩ := bnd h
    refine g_astore_n hX (pc := 21) (i := 1) (ls' := [(0, .ref o0), (1, .ref (zs z))]) [1, 0] dX4_remember_21 rfl (by decide) rfl ?_
    refine g_aload_n hX (pc := 22) (i := 0) dX4_remember_22 rfl 0 rfl ?_
    refine gf4_7 hX (pc := 23) (gd_some e_g8) fl_X4_48 dX4_remember_23 ?_
    refine g_aload_n hX (pc := 26) (i := 0) dX4_remember_26 rfl 0 rfl ?_
    refine gf4_8 hX (pc := 27) (gd_some e_g8) fl_X4_52 dX4_remember_27 ?_
    refine g_aload_n hX (pc := 30) (i := 1) dX4_remember_30 rfl 1 rfl ?_
    obtain ⟨z10, e_z10, h⟩ := bnd h
    refine g_aastoreE hX (pc := 31) (s4_7 (gd_some e_g8)).1 (s4_7 (gd_some e_g8)).2.1 (s4_7 (gd_some e_g8)).2.2.1 (gd_some e_g9).1 (gd_some e_g9).2.1 e_z10 dX4_remember_31 ?_
    obtain ⟨g11, e_g11, h⟩ := bnd h
    obtain ⟨g12, e_g12, h⟩ := bnd h
    refine g_aload_n hX (pc := 32) (i := 1) dX4_remember_32 rfl 1 rfl ?_
    refine g_aload_n hX (pc := 33) (i := 0) dX4_remember_33 rfl 0 rfl ?_
    refine gf4_5 hX (pc := 34) (gd_some e_g11) fl_X4_37 dX4_remember_34 ?_
    obtain ⟨g13, e_g13, h⟩ := bnd h
    obtain ⟨r14, e_r14, h⟩ := bnd h
    refine g_callVv hX (pc := 37) (d := d + 1) hr0 [.ref (o0 + 24)] (c := 0) (ct_X0_copyFrom (d := d + 0) (gd_some e_g13) (s4_5 (gd_some e_g11)).1 e_r14) (gd_some e_g13).1.1 (gd_some e_g13).1.2 (by decide) rfl co_X0_copyFrom ml_X4_241 im_X0_copyFrom sl_X0_copyFrom ini_X0 nm_X0_copyFrom (by decide) (by decide) (Nat.le_refl _) (Nat.le_of_ble_eq_true rfl) rfl dX4_remember_37 ?_
    refine g_aload_n hX (pc := 40) (i := 0) dX4_remember_40 rfl 0 rfl ?_
    refine g_aload_n hX (pc := 41) (i := 0) dX4_remember_41 rfl 0 rfl ?_
    refine gf4_8 hX (pc := 42) (gd_some e_g11) fl_X4_52 dX4_remember_42 ?_
    refine g_iconst hX (pc := 45) (v := 1) dX4_remember_45 (by decide) ?_
    refine g_iadd hX (pc := 46) dX4_remember_46 ?_
    refine g_bipush hX (pc := 47) (v := 12) dX4_remember_47 (by decide) ?_
    refine g_irem hX (pc := 49) dX4_remember_49 (by decide) ?_
    obtain ⟨I15, e_I15, h⟩ := bnd h
    refine pf4_8 hX (pc := 50) (gd_some e_g11) fl_X4_52 dX4_remember_50 e_I15 ?_
    refine g_aload_n hX (pc := 53) (i := 0) dX4_remember_53 rfl 0 rfl ?_
    refine g_aload_n hX (pc := 54) (i := 0) dX4_remember_54 rfl 0 rfl ?_
    refine gf4_9 hX (pc := 55) (gd_some e_g11) fl_X4_55 dX4_remember_55 ?_
    refine g_iconst hX (pc := 58) (v := 1) dX4_remember_58 (by decide) ?_
    refine g_iadd hX (pc := 59) dX4_remember_59 ?_
    refine g_bipush hX (pc := 60) (v := 12) dX4_remember_60 (by decide) ?_
    refine g_mmin (d := d + 1) hX (pc := 62) hr0 ml_X4_266 (by exact Nat.le_of_ble_eq_true rfl) (by decide) dX4_remember_62 ?_
    obtain ⟨I16, e_I16, h⟩ := bnd h
    refine pf4_9 hX (pc := 65) (gd_some e_g11) fl_X4_55 dX4_remember_65 e_I16 ?_
    replace h := Option.some.inj h
    obtain ⟨rfl, rfl⟩ := Prod.mk.inj h
    exact g_return hX (by decide) (by decide) dX4_remember_68
  | some a17 =>
    replace h := ocS h
    obtain ⟨g18, e_g18, h⟩ := bnd h
    refine g_astore_n hX (pc := 9) (i := 1) (ls' := [(0, .ref o0), (1, .ref a17)]) [1, 0] dX4_remember_9 rfl (by decide) rfl ?_
    refine g_aload_n hX (pc := 10) (i := 1) dX4_remember_10 rfl 1 rfl ?_
    refine g_ifnonnull hX (pc := 11) (tgt := 32) dX4_remember_11 (by decide) ?_
    refine g_aload_n hX (pc := 32) (i := 1) dX4_remember_32 rfl 1 rfl ?_
    refine g_aload_n hX (pc := 33) (i := 0) dX4_remember_33 rfl 0 rfl ?_
    refine gf4_5 hX (pc := 34) ho0 fl_X4_37 dX4_remember_34 ?_
    obtain ⟨r19, e_r19, h⟩ := bnd h
    refine g_callVv hX (pc := 37) (d := d + 1) hr0 [.ref (o0 + 24)] (c := 0) (ct_X0_copyFrom (d := d + 0) (gd_some e_g18) (s4_5 ho0).1 e_r19) (gd_some e_g18).1.1 (gd_some e_g18).1.2 (by decide) rfl co_X0_copyFrom ml_X4_241 im_X0_copyFrom sl_X0_copyFrom ini_X0 nm_X0_copyFrom (by decide) (by decide) (Nat.le_refl _) (Nat.le_of_ble_eq_true rfl) rfl dX4_remember_37 ?_
    refine g_aload_n hX (pc := 40) (i := 0) dX4_remember_40 rfl 0 rfl ?_
    refine g_aload_n hX (pc := 41) (i := 0) dX4_remember_41 rfl 0 rfl ?_
    refine gf4_8 hX (pc := 42) ho0 fl_X4_52 dX4_remember_42 ?_
    refine g_iconst hX (pc := 45) (v := 1) dX4_remember_45 (by decide) ?_
    refine g_iadd hX (pc := 46) dX4_remember_46 ?_
    refine g_bipush hX (pc := 47) (v := 12) dX4_remember_47 (by decide) ?_
    refine g_irem hX (pc := 49) dX4_remember_49 (by decide) ?_
    obtain ⟨I20, e_I20, h⟩ := bnd h
    refine pf4_8 hX (pc := 50) ho0 fl_X4_52 dX4_remember_50 e_I20 ?_
    refine g_aload_n hX (pc := 53) (i := 0) dX4_remember_53 rfl 0 rfl ?_
    refine g_aload_n hX (pc := 54) (i := 0) dX4_remember_54 rfl 0 rfl ?_
    refine gf4_9 hX (pc := 55) ho0 fl_X4_55 dX4_remember_55 ?_
    refine g_iconst hX (pc := 58) (v := 1) dX4_remember_58 (by decide) ?_
    refine g_iadd hX (pc := 59) dX4_remember_59 ?_
    refine g_bipush hX (pc := 60) (v := 12) dX4_remember_60 (by decide) ?_
    refine g_mmin (d := d + 1) hX (pc := 62) hr0 ml_X4_266 (by exact Nat.le_of_ble_eq_true rfl) (by decide) dX4_remember_62 ?_
    obtain ⟨I21, e_I21, h⟩ := bnd h
    refine pf4_9 hX (pc := 65) ho0 fl_X4_55 dX4_remember_65 e_I21 ?_
    replace h := Option.some.inj h
    obtain ⟨rfl, rfl⟩ := Prod.mk.inj h
    exact g_return hX (by decide) (by decide) dX4_remember_68
noncomputable def b_X0_settleAside_2 (o0 : Nat) (o1 : Nat) (s : Int32 × MI) : Option ((Int32 × MI) ⊕ ((MI) ⊕ (Int32 × MI))) :=
  if 864 < s.1 then
    some (.inr (.inr ((s.1, s.2))))
  else
    (f_X0_goThroughAside o0 o1 s.2).bind fun r5 =>
    if r5.1 = 0 then
      some (.inr (.inl r5.2))
    else
      some (.inl ((s.1 + 1, r5.2)))
noncomputable def f_X0_settleAside (o0 : Nat) (o1 : Nat) (I : MI) : Option (MI) :=
  (lp (b_X0_settleAside_2 o0 o1) ((0, I))).bind fun p7 =>
  Sum.elim (fun rr => some rr) (fun q8 =>
    some q8.2) p7
theorem nm_X0_settleAside : yX0_settleAside.cls ≠ "java/lang/invoke/MethodHandle" ∧ yX0_settleAside.cls ≠ "java/lang/invoke/VarHandle" ∧ (parseMethodDescriptor yX0_settleAside.desc).map (fun d => d.parameters.length) = some 1 := by decide +kernel
set_option maxRecDepth 100000 in
set_option maxHeartbeats 4000000 in
theorem ct_X0_settleAside {E : Ev} {d : Nat} {z : Sh} {J : MJ} {I : MI} {o0 : Nat} {o1 : Nat} {Iz : MI} (ho0 : oX0 z o0) (ho1 : oX3 z o1) (h : f_X0_settleAside o0 o1 I = some Iz) : Ct E (d + 4) yX0_settleAside cX0_settleAside 3 none 0 0 [.ref o0, .ref o1] z J I none z J Iz := by
  unfold f_X0_settleAside at h
  refine Ct.of (own := RX0) (ls := [(0, .ref o0), (1, .ref o1)]) (by decide) rfl (Nat.le_of_ble_eq_true rfl) rfl ?_
  intro X hr0 hnm hX
  refine g_iconst hX (pc := 0) (v := 0) dX0_settleAside_0 (by decide) ?_
  refine g_istore_n hX (pc := 1) (i := 2) (ls' := [(0, .ref o0), (1, .ref o1), (2, .int 0)]) [1, 2, 0] dX0_settleAside_1 rfl (by decide) rfl ?_
  obtain ⟨p7, hpl3, h⟩ := bnd h
  have KRl3 : ∀ rl3 : MI, Sum.inl rl3 = p7 → some rl3 = some Iz := by intro rl3 hrl3; subst hrl3; exact h
  have Kl3 : ∀ q8 : Int32 × MI, Sum.inr q8 = p7 → GW E X (QX E X 0 0 none z J Iz) 3 24 [(0, .ref o0), (1, .ref o1), (2, .int q8.1)] [] z J q8.2 0 0 := by
    intro q8 hql3
    subst hql3
    obtain rfl := Option.some.inj h
    exact g_return hX (Nat.le_refl _) (Nat.le_refl _) dX0_settleAside_24
  obtain ⟨kl3, hkl3⟩ := lp_ex hpl3
  clear hpl3 h
  have Ll3 : ∀ k : Nat, ∀ (s1 : Int32) (I2 : MI), lpN k (b_X0_settleAside_2 o0 o1) ((s1, I2)) = some p7 → GW E X (QX E X 0 0 none z J Iz) 3 2 [(0, .ref o0), (1, .ref o1), (2, .int s1)] [] z J I2 0 0 := by
    intro k
    induction k with
    | zero => intro s1 I2 h; cases h
    | succ k ihl3 =>
      intro s1 I2 h
      obtain ⟨wl3, h, hwl3⟩ := lpN_s h
      unfold b_X0_settleAside_2 at h
      try dsimp only at h
      refine g_iload_n hX (pc := 2) (i := 2) dX0_settleAside_2 rfl 2 rfl ?_
      refine g_sipush hX (pc := 3) (v := 864) dX0_settleAside_3 (by decide) ?_
      refine g_icmp_gt hX (pc := 6) dX0_settleAside_6 (tgt := 24) (by decide) (fun c4 => ?_) (fun c4 => ?_)
      · replace h := ifP c4 h
        obtain rfl := Option.some.inj h
        exact Kl3 ((s1, I2)) hwl3
      · replace h := ifN c4 h
        refine g_aload_n hX (pc := 9) (i := 0) dX0_settleAside_9 rfl 0 rfl ?_
        refine g_aload_n hX (pc := 10) (i := 1) dX0_settleAside_10 rfl 1 rfl ?_
        obtain ⟨r5, e_r5, h⟩ := bnd h
        refine g_callVi hX (pc := 11) (d := d + 3) hr0 [.ref o1] (c := 0) (ct_X0_goThroughAside (d := d + 0) ho0 ho1 e_r5) ho0.1.1 ho0.1.2 (by decide) rfl co_X0_goThroughAside ml_X0_153 im_X0_goThroughAside sl_X0_goThroughAside ini_X0 nm_X0_goThroughAside (by decide) ⟨Nat.le_refl _, Nat.le_refl _⟩ (Nat.le_refl _) (Nat.le_of_ble_eq_true rfl) rfl dX0_settleAside_11 ?_
        refine g_if_ne hX (pc := 14) dX0_settleAside_14 (tgt := 18) (by decide) (fun c6 => ?_) (fun c6 => ?_)
        · replace h := ifP c6 h
          obtain rfl := Option.some.inj h
          replace h := KRl3 _ hwl3
          obtain rfl := Option.some.inj h
          exact g_return hX (Nat.le_refl _) (Nat.le_refl _) dX0_settleAside_17
        · replace h := ifN c6 h
          refine g_iinc hX (pc := 18) (i := 2) (v := s1 + 1) (ls' := [(0, .ref o0), (1, .ref o1), (2, .int (s1 + 1))]) 2 [1, 2, 0] dX0_settleAside_18 rfl (by rfl) (by decide) rfl ?_
          refine g_goto hX (pc := 21) (tgt := 2) dX0_settleAside_21 (by decide) ?_
          obtain rfl := Option.some.inj h
          exact ihl3 (s1 + 1) r5.2 hwl3
  exact Ll3 kl3 0 I hkl3
noncomputable def f_X2_readItemOf (o0 b0 : Nat) (o1 : Nat) (x2 : Int32) (I : MI) : Option (Int32 × MI) :=
  (f_X2_isName o0 b0 I).bind fun r1 =>
  if r1 = 0 then
    (f_X2_fail o0 b0 1 I).bind fun r3 =>
    some (((-1), r3))
  else
    (f_X3_itemNamed o1 (I o0 5) I).bind fun r4 =>
    (if r4 = ((-1)) then
      (f_X2_fail o0 b0 3 I).bind fun r7 =>
      some r7
    else
      (f_X4_hasBit x2 r4).bind fun r8 =>
      if r8 = 0 then
        (f_J6_bitCount_0f7a4 x2).bind fun r10 =>
        if r10 < 6 then
          some I
        else
          (f_X2_fail o0 b0 5 I).bind fun r12 =>
          some r12
      else
        (f_X2_fail o0 b0 2 I).bind fun r13 =>
        some r13).bind fun (p14 : MI) =>
    (f_X2_advance o0 b0 p14).bind fun r15 =>
    some ((r4, r15))
theorem nm_X2_readItemOf : yX2_readItemOf.cls ≠ "java/lang/invoke/MethodHandle" ∧ yX2_readItemOf.cls ≠ "java/lang/invoke/VarHandle" ∧ (parseMethodDescriptor yX2_readItemOf.desc).map (fun d => d.parameters.length) = some 2 := by decide +kernel
set_option maxRecDepth 100000 in
set_option maxHeartbeats 4000000 in
theorem ct_X2_readItemOf {E : Ev} {d : Nat} {z : Sh} {J : MJ} {I : MI} {o0 b0 : Nat} {o1 : Nat} {x2 : Int32} {rr : Int32} {Iz : MI} (ho0 : oX2 z o0 b0) (ho1 : oX3 z o1) (h : f_X2_readItemOf o0 b0 o1 x2 I = some ((rr, Iz))) : Ct E (d + 2) yX2_readItemOf cX2_readItemOf 4 (some .int) 0 0 [.ref o0, .ref o1, .int x2] z J I (some (.int rr)) z J Iz := by
  unfold f_X2_readItemOf at h
  refine Ct.of (own := RX2) (ls := [(0, .ref o0), (1, .ref o1), (2, .int x2)]) (by decide) rfl (Nat.le_of_ble_eq_true rfl) rfl ?_
  intro X hr0 hnm hX
  refine g_aload_n hX (pc := 0) (i := 0) dX2_readItemOf_0 rfl 0 rfl ?_
  obtain ⟨r1, e_r1, h⟩ := bnd h
  refine g_callVi hX (pc := 1) (d := d + 1) hr0 [] (c := 2) (ct_X2_isName (d := d + 1) ho0 e_r1) ho0.1.1 ho0.1.2 (by decide) rfl co_X2_isName ml_X2_122 im_X2_isName sl_X2_isName ini_X2 nm_X2_isName (by decide) ⟨Nat.le_refl _, Nat.le_refl _⟩ (Nat.le_refl _) (Nat.le_of_ble_eq_true rfl) rfl dX2_readItemOf_1 ?_
  refine g_if_ne hX (pc := 4) dX2_readItemOf_4 (tgt := 14) (by decide) (fun c2 => ?_) (fun c2 => ?_)
  · replace h := ifP c2 h
    refine g_aload_n hX (pc := 7) (i := 0) dX2_readItemOf_7 rfl 0 rfl ?_
    refine g_iconst hX (pc := 8) (v := 1) dX2_readItemOf_8 (by decide) ?_
    obtain ⟨r3, e_r3, h⟩ := bnd h
    refine g_callVv hX (pc := 9) (d := d + 1) hr0 [.int 1] (c := 2) (ct_X2_fail (d := d + 1) ho0 e_r3) ho0.1.1 ho0.1.2 (by decide) rfl co_X2_fail ml_X2_64 im_X2_fail sl_X2_fail ini_X2 nm_X2_fail (by decide) ⟨Nat.le_refl _, Nat.le_refl _⟩ (Nat.le_refl _) (Nat.le_of_ble_eq_true rfl) rfl dX2_readItemOf_9 ?_
    refine g_iconst hX (pc := 12) (v := (-1)) dX2_readItemOf_12 (by decide) ?_
    replace h := Option.some.inj h
    obtain ⟨rfl, rfl⟩ := Prod.mk.inj h
    exact g_ireturn hX (Nat.le_refl _) (Nat.le_refl _) dX2_readItemOf_13
  · replace h := ifN c2 h
    refine g_aload_n hX (pc := 14) (i := 1) dX2_readItemOf_14 rfl 1 rfl ?_
    refine g_aload_n hX (pc := 15) (i := 0) dX2_readItemOf_15 rfl 0 rfl ?_
    refine gf2_5 hX (pc := 16) ho0 fl_X2_28 dX2_readItemOf_16 ?_
    obtain ⟨r4, e_r4, h⟩ := bnd h
    refine g_callVi hX (pc := 19) (d := d + 1) hr0 [.int (I o0 5)] (c := 3) (ct_X3_itemNamed (d := d + 1) ho1 e_r4) ho1.1.1 ho1.1.2 (by decide) rfl co_X3_itemNamed ml_X2_126 im_X3_itemNamed sl_X3_itemNamed ini_X3 nm_X3_itemNamed (by decide) ⟨Nat.le_refl _, Nat.le_refl _⟩ (Nat.le_refl _) (Nat.le_of_ble_eq_true rfl) rfl dX2_readItemOf_19 ?_
    refine g_istore_n hX (pc := 22) (i := 3) (ls' := [(0, .ref o0), (1, .ref o1), (2, .int x2), (3, .int r4)]) [1, 2, 3, 0] dX2_readItemOf_22 rfl (by decide) rfl ?_
    refine g_iload_n hX (pc := 23) (i := 3) dX2_readItemOf_23 rfl 3 rfl ?_
    refine g_iconst hX (pc := 24) (v := (-1)) dX2_readItemOf_24 (by decide) ?_
    obtain ⟨p14, hpj6, h⟩ := bnd h
    have Kj6 : ∀ qj6 : MI, qj6 = p14 → GW E X (QX E X 0 0 (some (.int rr)) z J Iz) 4 66 [(0, .ref o0), (1, .ref o1), (2, .int x2), (3, .int r4)] [] z J qj6 0 0 := by
      intro qj6 hqj6
      subst hqj6
      refine g_aload_n hX (pc := 66) (i := 0) dX2_readItemOf_66 rfl 0 rfl ?_
      obtain ⟨r15, e_r15, h⟩ := bnd h
      refine g_callVv hX (pc := 67) (d := d + 1) hr0 [] (c := 2) (ct_X2_advance (d := d + 0) ho0 e_r15) ho0.1.1 ho0.1.2 (by decide) rfl co_X2_advance ml_X2_45 im_X2_advance sl_X2_advance ini_X2 nm_X2_advance (by decide) ⟨Nat.le_refl _, Nat.le_refl _⟩ (Nat.le_refl _) (Nat.le_of_ble_eq_true rfl) rfl dX2_readItemOf_67 ?_
      refine g_iload_n hX (pc := 70) (i := 3) dX2_readItemOf_70 rfl 3 rfl ?_
      replace h := Option.some.inj h
      obtain ⟨rfl, rfl⟩ := Prod.mk.inj h
      exact g_ireturn hX (Nat.le_refl _) (Nat.le_refl _) dX2_readItemOf_71
    replace h := hpj6
    clear hpj6
    refine g_icmp_ne hX (pc := 25) dX2_readItemOf_25 (tgt := 36) (by decide) (fun c5 => ?_) (fun c5 => ?_)
    · replace h := ifP c5 h
      refine g_aload_n hX (pc := 28) (i := 0) dX2_readItemOf_28 rfl 0 rfl ?_
      refine g_iconst hX (pc := 29) (v := 3) dX2_readItemOf_29 (by decide) ?_
      obtain ⟨r7, e_r7, h⟩ := bnd h
      refine g_callVv hX (pc := 30) (d := d + 1) hr0 [.int 3] (c := 2) (ct_X2_fail (d := d + 1) ho0 e_r7) ho0.1.1 ho0.1.2 (by decide) rfl co_X2_fail ml_X2_64 im_X2_fail sl_X2_fail ini_X2 nm_X2_fail (by decide) ⟨Nat.le_refl _, Nat.le_refl _⟩ (Nat.le_refl _) (Nat.le_of_ble_eq_true rfl) rfl dX2_readItemOf_30 ?_
      refine g_goto hX (pc := 33) (tgt := 66) dX2_readItemOf_33 (by decide) ?_
      exact Kj6 r7 (Option.some.inj h)
    · replace h := ifN c5 h
      refine g_iload_n hX (pc := 36) (i := 2) dX2_readItemOf_36 rfl 2 rfl ?_
      refine g_iload_n hX (pc := 37) (i := 3) dX2_readItemOf_37 rfl 3 rfl ?_
      obtain ⟨r8, e_r8, h⟩ := bnd h
      refine g_callSNi hX (pc := 38) (d := d + 1) hr0 [.int x2, .int r4] (host := RX4) (ct_X4_hasBit (d := d + 1)  e_r8) co_X4_hasBit (by decide) sta_X4_hasBit ini_X4 nm_X4_hasBit (by decide) ⟨Nat.le_refl _, Nat.le_refl _⟩ (Nat.le_refl _) (Nat.le_of_ble_eq_true rfl) rfl dX2_readItemOf_38 ?_
      refine g_if_eq hX (pc := 41) dX2_readItemOf_41 (tgt := 52) (by decide) (fun c9 => ?_) (fun c9 => ?_)
      · replace h := ifP c9 h
        refine g_iload_n hX (pc := 52) (i := 2) dX2_readItemOf_52 rfl 2 rfl ?_
        obtain ⟨r10, e_r10, h⟩ := bnd h
        refine g_callSi hX (pc := 53) (d := d + 1) hr0 [.int x2] (ct_J6_bitCount_0f7a4 (d := d + 1)  e_r10) co_J6_bitCount_0f7a4 ml_X2_134 sta_J6_bitCount_0f7a4 ini_J6 nm_J6_bitCount_0f7a4 (by decide) ⟨Nat.le_refl _, Nat.le_refl _⟩ (Nat.le_refl _) (Nat.le_of_ble_eq_true rfl) rfl dX2_readItemOf_53 ?_
        refine g_bipush hX (pc := 56) (v := 6) dX2_readItemOf_56 (by decide) ?_
        refine g_icmp_lt hX (pc := 58) dX2_readItemOf_58 (tgt := 66) (by decide) (fun c11 => ?_) (fun c11 => ?_)
        · replace h := ifP c11 h
          exact Kj6 I (Option.some.inj h)
        · replace h := ifN c11 h
          refine g_aload_n hX (pc := 61) (i := 0) dX2_readItemOf_61 rfl 0 rfl ?_
          refine g_iconst hX (pc := 62) (v := 5) dX2_readItemOf_62 (by decide) ?_
          obtain ⟨r12, e_r12, h⟩ := bnd h
          refine g_callVv hX (pc := 63) (d := d + 1) hr0 [.int 5] (c := 2) (ct_X2_fail (d := d + 1) ho0 e_r12) ho0.1.1 ho0.1.2 (by decide) rfl co_X2_fail ml_X2_64 im_X2_fail sl_X2_fail ini_X2 nm_X2_fail (by decide) ⟨Nat.le_refl _, Nat.le_refl _⟩ (Nat.le_refl _) (Nat.le_of_ble_eq_true rfl) rfl dX2_readItemOf_63 ?_
          exact Kj6 r12 (Option.some.inj h)
      · replace h := ifN c9 h
        refine g_aload_n hX (pc := 44) (i := 0) dX2_readItemOf_44 rfl 0 rfl ?_
        refine g_iconst hX (pc := 45) (v := 2) dX2_readItemOf_45 (by decide) ?_
        obtain ⟨r13, e_r13, h⟩ := bnd h
        refine g_callVv hX (pc := 46) (d := d + 1) hr0 [.int 2] (c := 2) (ct_X2_fail (d := d + 1) ho0 e_r13) ho0.1.1 ho0.1.2 (by decide) rfl co_X2_fail ml_X2_64 im_X2_fail sl_X2_fail ini_X2 nm_X2_fail (by decide) ⟨Nat.le_refl _, Nat.le_refl _⟩ (Nat.le_refl _) (Nat.le_of_ble_eq_true rfl) rfl dX2_readItemOf_46 ?_
        refine g_goto hX (pc := 49) (tgt := 66) dX2_readItemOf_49 (by decide) ?_
        exact Kj6 r13 (Option.some.inj h)
noncomputable def f_X2_readNewName (o0 b0 : Nat) (o1 : Nat) (I : MI) : Option (Int32 × MI) :=
  (f_X2_isName o0 b0 I).bind fun r1 =>
  (if r1 = 0 then
    (f_X2_fail o0 b0 1 I).bind fun r4 =>
    some r4
  else
    (f_X3_hasName o1 (I o0 5) I).bind fun r5 =>
    if r5 = 0 then
      some I
    else
      (f_X2_fail o0 b0 2 I).bind fun r7 =>
      some r7).bind fun (p8 : MI) =>
  (f_X2_advance o0 b0 p8).bind fun r9 =>
  some ((p8 o0 5, r9))
theorem nm_X2_readNewName : yX2_readNewName.cls ≠ "java/lang/invoke/MethodHandle" ∧ yX2_readNewName.cls ≠ "java/lang/invoke/VarHandle" ∧ (parseMethodDescriptor yX2_readNewName.desc).map (fun d => d.parameters.length) = some 1 := by decide +kernel
set_option maxRecDepth 100000 in
set_option maxHeartbeats 4000000 in
theorem ct_X2_readNewName {E : Ev} {d : Nat} {z : Sh} {J : MJ} {I : MI} {o0 b0 : Nat} {o1 : Nat} {rr : Int32} {Iz : MI} (ho0 : oX2 z o0 b0) (ho1 : oX3 z o1) (h : f_X2_readNewName o0 b0 o1 I = some ((rr, Iz))) : Ct E (d + 2) yX2_readNewName cX2_readNewName 3 (some .int) 0 0 [.ref o0, .ref o1] z J I (some (.int rr)) z J Iz := by
  unfold f_X2_readNewName at h
  refine Ct.of (own := RX2) (ls := [(0, .ref o0), (1, .ref o1)]) (by decide) rfl (Nat.le_of_ble_eq_true rfl) rfl ?_
  intro X hr0 hnm hX
  refine g_aload_n hX (pc := 0) (i := 0) dX2_readNewName_0 rfl 0 rfl ?_
  obtain ⟨r1, e_r1, h⟩ := bnd h
  refine g_callVi hX (pc := 1) (d := d + 1) hr0 [] (c := 2) (ct_X2_isName (d := d + 1) ho0 e_r1) ho0.1.1 ho0.1.2 (by decide) rfl co_X2_isName ml_X2_122 im_X2_isName sl_X2_isName ini_X2 nm_X2_isName (by decide) ⟨Nat.le_refl _, Nat.le_refl _⟩ (Nat.le_refl _) (Nat.le_of_ble_eq_true rfl) rfl dX2_readNewName_1 ?_
  obtain ⟨p8, hpj3, h⟩ := bnd h
  have Kj3 : ∀ qj3 : MI, qj3 = p8 → GW E X (QX E X 0 0 (some (.int rr)) z J Iz) 3 31 [(0, .ref o0), (1, .ref o1)] [] z J qj3 0 0 := by
    intro qj3 hqj3
    subst hqj3
    refine g_aload_n hX (pc := 31) (i := 0) dX2_readNewName_31 rfl 0 rfl ?_
    refine gf2_5 hX (pc := 32) ho0 fl_X2_28 dX2_readNewName_32 ?_
    refine g_istore_n hX (pc := 35) (i := 2) (ls' := [(0, .ref o0), (1, .ref o1), (2, .int (qj3 o0 5))]) [1, 2, 0] dX2_readNewName_35 rfl (by decide) rfl ?_
    refine g_aload_n hX (pc := 36) (i := 0) dX2_readNewName_36 rfl 0 rfl ?_
    obtain ⟨r9, e_r9, h⟩ := bnd h
    refine g_callVv hX (pc := 37) (d := d + 1) hr0 [] (c := 2) (ct_X2_advance (d := d + 0) ho0 e_r9) ho0.1.1 ho0.1.2 (by decide) rfl co_X2_advance ml_X2_45 im_X2_advance sl_X2_advance ini_X2 nm_X2_advance (by decide) ⟨Nat.le_refl _, Nat.le_refl _⟩ (Nat.le_refl _) (Nat.le_of_ble_eq_true rfl) rfl dX2_readNewName_37 ?_
    refine g_iload_n hX (pc := 40) (i := 2) dX2_readNewName_40 rfl 2 rfl ?_
    replace h := Option.some.inj h
    obtain ⟨rfl, rfl⟩ := Prod.mk.inj h
    exact g_ireturn hX (Nat.le_refl _) (Nat.le_refl _) dX2_readNewName_41
  replace h := hpj3
  clear hpj3
  refine g_if_ne hX (pc := 4) dX2_readNewName_4 (tgt := 15) (by decide) (fun c2 => ?_) (fun c2 => ?_)
  · replace h := ifP c2 h
    refine g_aload_n hX (pc := 7) (i := 0) dX2_readNewName_7 rfl 0 rfl ?_
    refine g_iconst hX (pc := 8) (v := 1) dX2_readNewName_8 (by decide) ?_
    obtain ⟨r4, e_r4, h⟩ := bnd h
    refine g_callVv hX (pc := 9) (d := d + 1) hr0 [.int 1] (c := 2) (ct_X2_fail (d := d + 1) ho0 e_r4) ho0.1.1 ho0.1.2 (by decide) rfl co_X2_fail ml_X2_64 im_X2_fail sl_X2_fail ini_X2 nm_X2_fail (by decide) ⟨Nat.le_refl _, Nat.le_refl _⟩ (Nat.le_refl _) (Nat.le_of_ble_eq_true rfl) rfl dX2_readNewName_9 ?_
    refine g_goto hX (pc := 12) (tgt := 31) dX2_readNewName_12 (by decide) ?_
    exact Kj3 r4 (Option.some.inj h)
  · replace h := ifN c2 h
    refine g_aload_n hX (pc := 15) (i := 1) dX2_readNewName_15 rfl 1 rfl ?_
    refine g_aload_n hX (pc := 16) (i := 0) dX2_readNewName_16 rfl 0 rfl ?_
    refine gf2_5 hX (pc := 17) ho0 fl_X2_28 dX2_readNewName_17 ?_
    obtain ⟨r5, e_r5, h⟩ := bnd h
    refine g_callVi hX (pc := 20) (d := d + 1) hr0 [.int (I o0 5)] (c := 3) (ct_X3_hasName (d := d + 0) ho1 e_r5) ho1.1.1 ho1.1.2 (by decide) rfl co_X3_hasName ml_X2_139 im_X3_hasName sl_X3_hasName ini_X3 nm_X3_hasName (by decide) ⟨Nat.le_refl _, Nat.le_refl _⟩ (Nat.le_refl _) (Nat.le_of_ble_eq_true rfl) rfl dX2_readNewName_20 ?_
    refine g_if_eq hX (pc := 23) dX2_readNewName_23 (tgt := 31) (by decide) (fun c6 => ?_) (fun c6 => ?_)
    · replace h := ifP c6 h
      exact Kj3 I (Option.some.inj h)
    · replace h := ifN c6 h
      refine g_aload_n hX (pc := 26) (i := 0) dX2_readNewName_26 rfl 0 rfl ?_
      refine g_iconst hX (pc := 27) (v := 2) dX2_readNewName_27 (by decide) ?_
      obtain ⟨r7, e_r7, h⟩ := bnd h
      refine g_callVv hX (pc := 28) (d := d + 1) hr0 [.int 2] (c := 2) (ct_X2_fail (d := d + 1) ho0 e_r7) ho0.1.1 ho0.1.2 (by decide) rfl co_X2_fail ml_X2_64 im_X2_fail sl_X2_fail ini_X2 nm_X2_fail (by decide) ⟨Nat.le_refl _, Nat.le_refl _⟩ (Nat.le_refl _) (Nat.le_of_ble_eq_true rfl) rfl dX2_readNewName_28 ?_
      exact Kj3 r7 (Option.some.inj h)
noncomputable def f_X2_readNumber (o0 b0 : Nat) (x1 : Int32) (x2 : Int32) (I : MI) : Option (Int32 × MI) :=
  (if (I o0 3) = 2 then
    if (I o0 5) < x1 then
      (f_X2_fail o0 b0 4 I).bind fun r4 =>
      some r4
    else
      if x2 < (I o0 5) then
        (f_X2_fail o0 b0 4 I).bind fun r6 =>
        some r6
      else
        some I
  else
    (f_X2_fail o0 b0 1 I).bind fun r7 =>
    some r7).bind fun (p8 : MI) =>
  (f_X2_advance o0 b0 p8).bind fun r9 =>
  some ((p8 o0 5, r9))
theorem nm_X2_readNumber : yX2_readNumber.cls ≠ "java/lang/invoke/MethodHandle" ∧ yX2_readNumber.cls ≠ "java/lang/invoke/VarHandle" ∧ (parseMethodDescriptor yX2_readNumber.desc).map (fun d => d.parameters.length) = some 2 := by decide +kernel
set_option maxRecDepth 100000 in
set_option maxHeartbeats 4000000 in
theorem ct_X2_readNumber {E : Ev} {d : Nat} {z : Sh} {J : MJ} {I : MI} {o0 b0 : Nat} {x1 : Int32} {x2 : Int32} {rr : Int32} {Iz : MI} (ho0 : oX2 z o0 b0) (h : f_X2_readNumber o0 b0 x1 x2 I = some ((rr, Iz))) : Ct E (d + 2) yX2_readNumber cX2_readNumber 4 (some .int) 0 0 [.ref o0, .int x1, .int x2] z J I (some (.int rr)) z J Iz := by
  unfold f_X2_readNumber at h
  refine Ct.of (own := RX2) (ls := [(0, .ref o0), (1, .int x1), (2, .int x2)]) (by decide) rfl (Nat.le_of_ble_eq_true rfl) rfl ?_
  intro X hr0 hnm hX
  refine g_aload_n hX (pc := 0) (i := 0) dX2_readNumber_0 rfl 0 rfl ?_
  refine gf2_3 hX (pc := 1) ho0 fl_X2_22 dX2_readNumber_1 ?_
  refine g_iconst hX (pc := 4) (v := 2) dX2_readNumber_4 (by decide) ?_
  obtain ⟨p8, hpj2, h⟩ := bnd h
  have Kj2 : ∀ qj2 : MI, qj2 = p8 → GW E X (QX E X 0 0 (some (.int rr)) z J Iz) 4 37 [(0, .ref o0), (1, .int x1), (2, .int x2)] [] z J qj2 0 0 := by
    intro qj2 hqj2
    subst hqj2
    refine g_aload_n hX (pc := 37) (i := 0) dX2_readNumber_37 rfl 0 rfl ?_
    refine gf2_5 hX (pc := 38) ho0 fl_X2_28 dX2_readNumber_38 ?_
    refine g_istore_n hX (pc := 41) (i := 3) (ls' := [(0, .ref o0), (1, .int x1), (2, .int x2), (3, .int (qj2 o0 5))]) [1, 2, 3, 0] dX2_readNumber_41 rfl (by decide) rfl ?_
    refine g_aload_n hX (pc := 42) (i := 0) dX2_readNumber_42 rfl 0 rfl ?_
    obtain ⟨r9, e_r9, h⟩ := bnd h
    refine g_callVv hX (pc := 43) (d := d + 1) hr0 [] (c := 2) (ct_X2_advance (d := d + 0) ho0 e_r9) ho0.1.1 ho0.1.2 (by decide) rfl co_X2_advance ml_X2_45 im_X2_advance sl_X2_advance ini_X2 nm_X2_advance (by decide) ⟨Nat.le_refl _, Nat.le_refl _⟩ (Nat.le_refl _) (Nat.le_of_ble_eq_true rfl) rfl dX2_readNumber_43 ?_
    refine g_iload_n hX (pc := 46) (i := 3) dX2_readNumber_46 rfl 3 rfl ?_
    replace h := Option.some.inj h
    obtain ⟨rfl, rfl⟩ := Prod.mk.inj h
    exact g_ireturn hX (Nat.le_refl _) (Nat.le_refl _) dX2_readNumber_47
  replace h := hpj2
  clear hpj2
  refine g_icmp_eq hX (pc := 5) dX2_readNumber_5 (tgt := 16) (by decide) (fun c1 => ?_) (fun c1 => ?_)
  · replace h := ifP c1 h
    refine g_aload_n hX (pc := 16) (i := 0) dX2_readNumber_16 rfl 0 rfl ?_
    refine gf2_5 hX (pc := 17) ho0 fl_X2_28 dX2_readNumber_17 ?_
    refine g_iload_n hX (pc := 20) (i := 1) dX2_readNumber_20 rfl 1 rfl ?_
    refine g_icmp_lt hX (pc := 21) dX2_readNumber_21 (tgt := 32) (by decide) (fun c3 => ?_) (fun c3 => ?_)
    · replace h := ifP c3 h
      refine g_aload_n hX (pc := 32) (i := 0) dX2_readNumber_32 rfl 0 rfl ?_
      refine g_iconst hX (pc := 33) (v := 4) dX2_readNumber_33 (by decide) ?_
      obtain ⟨r4, e_r4, h⟩ := bnd h
      refine g_callVv hX (pc := 34) (d := d + 1) hr0 [.int 4] (c := 2) (ct_X2_fail (d := d + 1) ho0 e_r4) ho0.1.1 ho0.1.2 (by decide) rfl co_X2_fail ml_X2_64 im_X2_fail sl_X2_fail ini_X2 nm_X2_fail (by decide) ⟨Nat.le_refl _, Nat.le_refl _⟩ (Nat.le_refl _) (Nat.le_of_ble_eq_true rfl) rfl dX2_readNumber_34 ?_
      exact Kj2 r4 (Option.some.inj h)
    · replace h := ifN c3 h
      refine g_aload_n hX (pc := 24) (i := 0) dX2_readNumber_24 rfl 0 rfl ?_
      refine gf2_5 hX (pc := 25) ho0 fl_X2_28 dX2_readNumber_25 ?_
      refine g_iload_n hX (pc := 28) (i := 2) dX2_readNumber_28 rfl 2 rfl ?_
      refine g_icmp_le hX (pc := 29) dX2_readNumber_29 (tgt := 37) (by decide) (fun c5 => ?_) (fun c5 => ?_)
      · replace h := ifP c5 h
        refine g_aload_n hX (pc := 32) (i := 0) dX2_readNumber_32 rfl 0 rfl ?_
        refine g_iconst hX (pc := 33) (v := 4) dX2_readNumber_33 (by decide) ?_
        obtain ⟨r6, e_r6, h⟩ := bnd h
        refine g_callVv hX (pc := 34) (d := d + 1) hr0 [.int 4] (c := 2) (ct_X2_fail (d := d + 1) ho0 e_r6) ho0.1.1 ho0.1.2 (by decide) rfl co_X2_fail ml_X2_64 im_X2_fail sl_X2_fail ini_X2 nm_X2_fail (by decide) ⟨Nat.le_refl _, Nat.le_refl _⟩ (Nat.le_refl _) (Nat.le_of_ble_eq_true rfl) rfl dX2_readNumber_34 ?_
        exact Kj2 r6 (Option.some.inj h)
      · replace h := ifN c5 h
        exact Kj2 I (Option.some.inj h)
  · replace h := ifN c1 h
    refine g_aload_n hX (pc := 8) (i := 0) dX2_readNumber_8 rfl 0 rfl ?_
    refine g_iconst hX (pc := 9) (v := 1) dX2_readNumber_9 (by decide) ?_
    obtain ⟨r7, e_r7, h⟩ := bnd h
    refine g_callVv hX (pc := 10) (d := d + 1) hr0 [.int 1] (c := 2) (ct_X2_fail (d := d + 1) ho0 e_r7) ho0.1.1 ho0.1.2 (by decide) rfl co_X2_fail ml_X2_64 im_X2_fail sl_X2_fail ini_X2 nm_X2_fail (by decide) ⟨Nat.le_refl _, Nat.le_refl _⟩ (Nat.le_refl _) (Nat.le_of_ble_eq_true rfl) rfl dX2_readNumber_10 ?_
    refine g_goto hX (pc := 13) (tgt := 37) dX2_readNumber_13 (by decide) ?_
    exact Kj2 r7 (Option.some.inj h)
noncomputable def f_X2_readClose (o0 b0 : Nat) (I : MI) : Option (MI) :=
  (if (I o0 3) = 3 then
    some I
  else
    (f_X2_fail o0 b0 1 I).bind fun r3 =>
    some r3).bind fun (p4 : MI) =>
  (f_X2_advance o0 b0 p4).bind fun r5 =>
  some r5
theorem nm_X2_readClose : yX2_readClose.cls ≠ "java/lang/invoke/MethodHandle" ∧ yX2_readClose.cls ≠ "java/lang/invoke/VarHandle" ∧ (parseMethodDescriptor yX2_readClose.desc).map (fun d => d.parameters.length) = some 0 := by decide +kernel
set_option maxRecDepth 100000 in
set_option maxHeartbeats 4000000 in
theorem ct_X2_readClose {E : Ev} {d : Nat} {z : Sh} {J : MJ} {I : MI} {o0 b0 : Nat} {Iz : MI} (ho0 : oX2 z o0 b0) (h : f_X2_readClose o0 b0 I = some Iz) : Ct E (d + 2) yX2_readClose cX2_readClose 1 none 0 0 [.ref o0] z J I none z J Iz := by
  unfold f_X2_readClose at h
  refine Ct.of (own := RX2) (ls := [(0, .ref o0)]) (by decide) rfl (Nat.le_of_ble_eq_true rfl) rfl ?_
  intro X hr0 hnm hX
  refine g_aload_n hX (pc := 0) (i := 0) dX2_readClose_0 rfl 0 rfl ?_
  refine gf2_3 hX (pc := 1) ho0 fl_X2_22 dX2_readClose_1 ?_
  refine g_iconst hX (pc := 4) (v := 3) dX2_readClose_4 (by decide) ?_
  obtain ⟨p4, hpj2, h⟩ := bnd h
  have Kj2 : ∀ qj2 : MI, qj2 = p4 → GW E X (QX E X 0 0 none z J Iz) 1 13 [(0, .ref o0)] [] z J qj2 0 0 := by
    intro qj2 hqj2
    subst hqj2
    refine g_aload_n hX (pc := 13) (i := 0) dX2_readClose_13 rfl 0 rfl ?_
    obtain ⟨r5, e_r5, h⟩ := bnd h
    refine g_callVv hX (pc := 14) (d := d + 1) hr0 [] (c := 2) (ct_X2_advance (d := d + 0) ho0 e_r5) ho0.1.1 ho0.1.2 (by decide) rfl co_X2_advance ml_X2_45 im_X2_advance sl_X2_advance ini_X2 nm_X2_advance (by decide) ⟨Nat.le_refl _, Nat.le_refl _⟩ (Nat.le_refl _) (Nat.le_of_ble_eq_true rfl) rfl dX2_readClose_14 ?_
    obtain rfl := Option.some.inj h
    exact g_return hX (Nat.le_refl _) (Nat.le_refl _) dX2_readClose_17
  replace h := hpj2
  clear hpj2
  refine g_icmp_eq hX (pc := 5) dX2_readClose_5 (tgt := 13) (by decide) (fun c1 => ?_) (fun c1 => ?_)
  · replace h := ifP c1 h
    exact Kj2 I (Option.some.inj h)
  · replace h := ifN c1 h
    refine g_aload_n hX (pc := 8) (i := 0) dX2_readClose_8 rfl 0 rfl ?_
    refine g_iconst hX (pc := 9) (v := 1) dX2_readClose_9 (by decide) ?_
    obtain ⟨r3, e_r3, h⟩ := bnd h
    refine g_callVv hX (pc := 10) (d := d + 1) hr0 [.int 1] (c := 2) (ct_X2_fail (d := d + 1) ho0 e_r3) ho0.1.1 ho0.1.2 (by decide) rfl co_X2_fail ml_X2_64 im_X2_fail sl_X2_fail ini_X2 nm_X2_fail (by decide) ⟨Nat.le_refl _, Nat.le_refl _⟩ (Nat.le_refl _) (Nat.le_of_ble_eq_true rfl) rfl dX2_readClose_10 ?_
    exact Kj2 r3 (Option.some.inj h)
noncomputable def b_X3_gather_34 (o0 : Nat) (x1 : Int32) (x2 : Int32) (I : MI) (s : Int32 × Int32 × Int32) : Option ((Int32 × Int32 × Int32) ⊕ ((Int32) ⊕ (Int32 × Int32 × Int32))) :=
  if s.2.2 < x2 then
    (f_X3_itemsOfAll o0 s.1 I).bind fun r9 =>
    (f_X3_bestToJoin o0 r9 (x1 &&& (s.1 ^^^ ((-1)))) s.2.1 I).bind fun r10 =>
    if r10 = ((-1)) then
      some (.inr (.inl s.1))
    else
      (rd 16 (I (o0 + 7)) r10).bind fun v12 =>
      some (.inl ((s.1 ||| ((1 : Int32) <<< (r10 &&& 31)), s.2.1 - v12, s.2.2 + 1)))
  else
    some (.inr (.inr ((s.1, s.2.1, s.2.2))))
noncomputable def f_X3_gather (o0 : Nat) (x1 : Int32) (x2 : Int32) (I : MI) : Option (Int32) :=
  (f_X3_earliest o0 x1 I).bind fun r1 =>
  if r1 = ((-1)) then
    some 0
  else
    (rd 16 (I (o0 + 7)) r1).bind fun v3 =>
    (lp (b_X3_gather_34 o0 x1 x2 I) (((1 : Int32) <<< (r1 &&& 31), (I o0 4) - v3, 1))).bind fun p13 =>
    Sum.elim (fun rr => some rr) (fun q14 =>
      some q14.1) p13
theorem nm_X3_gather : yX3_gather.cls ≠ "java/lang/invoke/MethodHandle" ∧ yX3_gather.cls ≠ "java/lang/invoke/VarHandle" ∧ (parseMethodDescriptor yX3_gather.desc).map (fun d => d.parameters.length) = some 2 := by decide +kernel
set_option maxRecDepth 100000 in
set_option maxHeartbeats 4000000 in
theorem ct_X3_gather {E : Ev} {d : Nat} {z : Sh} {J : MJ} {I : MI} {o0 : Nat} {x1 : Int32} {x2 : Int32} {rr : Int32} (ho0 : oX3 z o0) (h : f_X3_gather o0 x1 x2 I = some rr) : Ct E (d + 2) yX3_gather cX3_gather 8 (some .int) 0 0 [.ref o0, .int x1, .int x2] z J I (some (.int rr)) z J I := by
  unfold f_X3_gather at h
  refine Ct.of (own := RX3) (ls := [(0, .ref o0), (1, .int x1), (2, .int x2)]) (by decide) rfl (Nat.le_of_ble_eq_true rfl) rfl ?_
  intro X hr0 hnm hX
  refine g_aload_n hX (pc := 0) (i := 0) dX3_gather_0 rfl 0 rfl ?_
  refine g_iload_n hX (pc := 1) (i := 1) dX3_gather_1 rfl 1 rfl ?_
  obtain ⟨r1, e_r1, h⟩ := bnd h
  refine g_callVi hX (pc := 2) (d := d + 1) hr0 [.int x1] (c := 3) (ct_X3_earliest (d := d + 0) ho0 e_r1) ho0.1.1 ho0.1.2 (by decide) rfl co_X3_earliest ml_X3_90 im_X3_earliest sl_X3_earliest ini_X3 nm_X3_earliest (by decide) ⟨Nat.le_refl _, Nat.le_refl _⟩ (Nat.le_refl _) (Nat.le_of_ble_eq_true rfl) rfl dX3_gather_2 ?_
  refine g_istore_n hX (pc := 5) (i := 3) (ls' := [(0, .ref o0), (1, .int x1), (2, .int x2), (3, .int r1)]) [1, 2, 3, 0] dX3_gather_5 rfl (by decide) rfl ?_
  refine g_iload_n hX (pc := 6) (i := 3) dX3_gather_6 rfl 3 rfl ?_
  refine g_iconst hX (pc := 7) (v := (-1)) dX3_gather_7 (by decide) ?_
  refine g_icmp_ne hX (pc := 8) dX3_gather_8 (tgt := 13) (by decide) (fun c2 => ?_) (fun c2 => ?_)
  · replace h := ifP c2 h
    refine g_iconst hX (pc := 11) (v := 0) dX3_gather_11 (by decide) ?_
    obtain rfl := Option.some.inj h
    exact g_ireturn hX (Nat.le_refl _) (Nat.le_refl _) dX3_gather_12
  · replace h := ifN c2 h
    refine g_iconst hX (pc := 13) (v := 1) dX3_gather_13 (by decide) ?_
    refine g_iload_n hX (pc := 14) (i := 3) dX3_gather_14 rfl 3 rfl ?_
    refine g_ishl hX (pc := 15) dX3_gather_15 ?_
    refine g_istore hX (pc := 16) (ls' := [(0, .ref o0), (1, .int x1), (2, .int x2), (3, .int r1), (4, .int ((1 : Int32) <<< (r1 &&& 31)))]) [1, 2, 3, 4, 0] dX3_gather_16 (by decide) rfl ?_
    refine g_aload_n hX (pc := 18) (i := 0) dX3_gather_18 rfl 0 rfl ?_
    refine gf3_4 hX (pc := 19) ho0 fl_X3_25 dX3_gather_19 ?_
    refine g_aload_n hX (pc := 22) (i := 0) dX3_gather_22 rfl 0 rfl ?_
    refine gf3_14 hX (pc := 23) ho0 fl_X3_56 dX3_gather_23 ?_
    refine g_iload_n hX (pc := 26) (i := 3) dX3_gather_26 rfl 3 rfl ?_
    obtain ⟨v3, e_v3, h⟩ := bnd h
    refine g_ialoadE hX (pc := 27) (s3_14 ho0).1 (s3_14 ho0).2.1 (s3_14 ho0).2.2.1 e_v3 dX3_gather_27 ?_
    refine g_isub hX (pc := 28) dX3_gather_28 ?_
    refine g_istore hX (pc := 29) (ls' := [(0, .ref o0), (1, .int x1), (2, .int x2), (3, .int r1), (4, .int ((1 : Int32) <<< (r1 &&& 31))), (5, .int ((I o0 4) - v3))]) [1, 2, 3, 4, 5, 0] dX3_gather_29 (by decide) rfl ?_
    refine g_iconst hX (pc := 31) (v := 1) dX3_gather_31 (by decide) ?_
    refine g_istore hX (pc := 32) (ls' := [(0, .ref o0), (1, .int x1), (2, .int x2), (3, .int r1), (4, .int ((1 : Int32) <<< (r1 &&& 31))), (5, .int ((I o0 4) - v3)), (6, .int 1)]) [1, 2, 3, 4, 5, 6, 0] dX3_gather_32 (by decide) rfl ?_
    obtain ⟨p13, hpl7, h⟩ := bnd h
    have KRl7 : ∀ rl7 : Int32, Sum.inl rl7 = p13 → some rl7 = some rr := by intro rl7 hrl7; subst hrl7; exact h
    have Kl7 : ∀ q14 : Int32 × Int32 × Int32, Sum.inr q14 = p13 → GW E X (QX E X 0 0 (some (.int rr)) z J I) 8 96 [(0, .ref o0), (1, .int x1), (2, .int x2), (3, .int r1), (4, .int q14.1), (5, .int q14.2.1), (6, .int q14.2.2)] [] z J I 0 0 := by
      intro q14 hql7
      subst hql7
      refine g_iload hX (pc := 96) dX3_gather_96 4 rfl ?_
      obtain rfl := Option.some.inj h
      exact g_ireturn hX (Nat.le_refl _) (Nat.le_refl _) dX3_gather_98
    obtain ⟨kl7, hkl7⟩ := lp_ex hpl7
    clear hpl7 h
    have Ll7 : ∀ k : Nat, ∀ (s4 : Int32) (s5 : Int32) (s6 : Int32), lpN k (b_X3_gather_34 o0 x1 x2 I) ((s4, s5, s6)) = some p13 → GW E X (QX E X 0 0 (some (.int rr)) z J I) 8 34 [(0, .ref o0), (1, .int x1), (2, .int x2), (3, .int r1), (4, .int s4), (5, .int s5), (6, .int s6)] [] z J I 0 0 := by
      intro k
      induction k with
      | zero => intro s4 s5 s6 h; cases h
      | succ k ihl7 =>
        intro s4 s5 s6 h
        obtain ⟨wl7, h, hwl7⟩ := lpN_s h
        unfold b_X3_gather_34 at h
        try dsimp only at h
        refine g_iload hX (pc := 34) dX3_gather_34 6 rfl ?_
        refine g_iload_n hX (pc := 36) (i := 2) dX3_gather_36 rfl 2 rfl ?_
        refine g_icmp_ge hX (pc := 37) dX3_gather_37 (tgt := 96) (by decide) (fun c8 => ?_) (fun c8 => ?_)
        · replace h := ifP c8 h
          refine g_aload_n hX (pc := 40) (i := 0) dX3_gather_40 rfl 0 rfl ?_
          refine g_aload_n hX (pc := 41) (i := 0) dX3_gather_41 rfl 0 rfl ?_
          refine g_iload hX (pc := 42) dX3_gather_42 4 rfl ?_
          obtain ⟨r9, e_r9, h⟩ := bnd h
          refine g_callVi hX (pc := 44) (d := d + 1) hr0 [.int s4] (c := 3) (ct_X3_itemsOfAll (d := d + 0) ho0 e_r9) ho0.1.1 ho0.1.2 (by decide) rfl co_X3_itemsOfAll ml_X3_93 im_X3_itemsOfAll sl_X3_itemsOfAll ini_X3 nm_X3_itemsOfAll (by decide) ⟨Nat.le_refl _, Nat.le_refl _⟩ (Nat.le_refl _) (Nat.le_of_ble_eq_true rfl) rfl dX3_gather_44 ?_
          refine g_iload_n hX (pc := 47) (i := 1) dX3_gather_47 rfl 1 rfl ?_
          refine g_iload hX (pc := 48) dX3_gather_48 4 rfl ?_
          refine g_iconst hX (pc := 50) (v := (-1)) dX3_gather_50 (by decide) ?_
          refine g_ixor hX (pc := 51) dX3_gather_51 ?_
          refine g_iand hX (pc := 52) dX3_gather_52 ?_
          refine g_iload hX (pc := 53) dX3_gather_53 5 rfl ?_
          obtain ⟨r10, e_r10, h⟩ := bnd h
          refine g_callVi hX (pc := 55) (d := d + 1) hr0 [.int r9, .int (x1 &&& (s4 ^^^ ((-1)))), .int s5] (c := 3) (ct_X3_bestToJoin (d := d + 0) ho0 e_r10) ho0.1.1 ho0.1.2 (by decide) rfl co_X3_bestToJoin ml_X3_96 im_X3_bestToJoin sl_X3_bestToJoin ini_X3 nm_X3_bestToJoin (by decide) ⟨Nat.le_refl _, Nat.le_refl _⟩ (Nat.le_refl _) (Nat.le_of_ble_eq_true rfl) rfl dX3_gather_55 ?_
          refine g_istore hX (pc := 58) (ls' := [(0, .ref o0), (1, .int x1), (2, .int x2), (3, .int r1), (4, .int s4), (5, .int s5), (6, .int s6), (7, .int r10)]) [1, 2, 3, 4, 5, 6, 7, 0] dX3_gather_58 (by decide) rfl ?_
          refine g_iload hX (pc := 60) dX3_gather_60 7 rfl ?_
          refine g_iconst hX (pc := 62) (v := (-1)) dX3_gather_62 (by decide) ?_
          refine g_icmp_ne hX (pc := 63) dX3_gather_63 (tgt := 69) (by decide) (fun c11 => ?_) (fun c11 => ?_)
          · replace h := ifP c11 h
            refine g_iload hX (pc := 66) dX3_gather_66 4 rfl ?_
            obtain rfl := Option.some.inj h
            replace h := KRl7 _ hwl7
            obtain rfl := Option.some.inj h
            exact g_ireturn hX (Nat.le_refl _) (Nat.le_refl _) dX3_gather_68
          · replace h := ifN c11 h
            refine g_iload hX (pc := 69) dX3_gather_69 4 rfl ?_
            refine g_iconst hX (pc := 71) (v := 1) dX3_gather_71 (by decide) ?_
            refine g_iload hX (pc := 72) dX3_gather_72 7 rfl ?_
            refine g_ishl hX (pc := 74) dX3_gather_74 ?_
            refine g_ior hX (pc := 75) dX3_gather_75 ?_
            refine g_istore hX (pc := 76) (ls' := [(0, .ref o0), (1, .int x1), (2, .int x2), (3, .int r1), (4, .int (s4 ||| ((1 : Int32) <<< (r10 &&& 31)))), (5, .int s5), (6, .int s6), (7, .int r10)]) [1, 2, 3, 4, 0, 5, 6, 7] dX3_gather_76 (by decide) rfl ?_
            refine g_iload hX (pc := 78) dX3_gather_78 5 rfl ?_
            refine g_aload_n hX (pc := 80) (i := 0) dX3_gather_80 rfl 0 rfl ?_
            refine gf3_14 hX (pc := 81) ho0 fl_X3_56 dX3_gather_81 ?_
            refine g_iload hX (pc := 84) dX3_gather_84 7 rfl ?_
            obtain ⟨v12, e_v12, h⟩ := bnd h
            refine g_ialoadE hX (pc := 86) (s3_14 ho0).1 (s3_14 ho0).2.1 (s3_14 ho0).2.2.1 e_v12 dX3_gather_86 ?_
            refine g_isub hX (pc := 87) dX3_gather_87 ?_
            refine g_istore hX (pc := 88) (ls' := [(0, .ref o0), (1, .int x1), (2, .int x2), (3, .int r1), (4, .int (s4 ||| ((1 : Int32) <<< (r10 &&& 31)))), (5, .int (s5 - v12)), (6, .int s6), (7, .int r10)]) [1, 2, 3, 4, 5, 0, 6, 7] dX3_gather_88 (by decide) rfl ?_
            refine g_iinc hX (pc := 90) (i := 6) (v := s6 + 1) (ls' := [(0, .ref o0), (1, .int x1), (2, .int x2), (3, .int r1), (4, .int (s4 ||| ((1 : Int32) <<< (r10 &&& 31)))), (5, .int (s5 - v12)), (6, .int (s6 + 1)), (7, .int r10)]) 6 [1, 2, 3, 4, 5, 6, 0, 7] dX3_gather_90 rfl (by rfl) (by decide) rfl ?_
            refine g_goto hX (pc := 93) (tgt := 34) dX3_gather_93 (by decide) ?_
            refine g_sub (ls' := [(0, .ref o0), (1, .int x1), (2, .int x2), (3, .int r1), (4, .int (s4 ||| ((1 : Int32) <<< (r10 &&& 31)))), (5, .int (s5 - v12)), (6, .int (s6 + 1))]) [0, 1, 2, 3, 4, 5, 6] rfl ?_
            obtain rfl := Option.some.inj h
            exact ihl7 (s4 ||| ((1 : Int32) <<< (r10 &&& 31))) (s5 - v12) (s6 + 1) hwl7
        · replace h := ifN c8 h
          obtain rfl := Option.some.inj h
          exact Kl7 ((s4, s5, s6)) hwl7
    exact Ll7 kl7 ((1 : Int32) <<< (r1 &&& 31)) ((I o0 4) - v3) 1 hkl7
noncomputable def f_X4_stock (o0 t0 u0 : Nat) (x1 : Int32) (x2 : Int32) (z : Sh) (I : MI) : Option (Int32 × Sh × MI) :=
  (f_X3_isItem t0 x1 I).bind fun r1 =>
  if r1 = 0 then
    some (((-1), z, I))
  else
    if x2 < 1 then
      some (((-1), z, I))
    else
      if 99 < x2 then
        some (((-1), z, I))
      else
        (f_X4_remember o0 t0 u0 z I).bind fun r5 =>
        (gd (zs z ≤ zs r5.1)).bind fun g6 =>
        (gd (oX4 r5.1 o0 t0 u0)).bind fun g7 =>
        (f_X0_bringStock (o0 + 24) t0 x1 x2 r5.2).bind fun r8 =>
        some ((r8.1, r5.1, r8.2))
theorem nm_X4_stock : yX4_stock.cls ≠ "java/lang/invoke/MethodHandle" ∧ yX4_stock.cls ≠ "java/lang/invoke/VarHandle" ∧ (parseMethodDescriptor yX4_stock.desc).map (fun d => d.parameters.length) = some 2 := by decide +kernel
set_option maxRecDepth 100000 in
set_option maxHeartbeats 4000000 in
theorem ct_X4_stock {E : Ev} {d : Nat} {z : Sh} {J : MJ} {I : MI} {o0 t0 u0 : Nat} {x1 : Int32} {x2 : Int32} {rr : Int32} {zz : Sh} {Iz : MI} (ho0 : oX4 z o0 t0 u0) (h : f_X4_stock o0 t0 u0 x1 x2 z I = some ((rr, zz, Iz))) : Ct E (d + 3) yX4_stock cX4_stock 3 (some .int) 10 2127 [.ref o0, .int x1, .int x2] z J I (some (.int rr)) zz J Iz := by
  unfold f_X4_stock at h
  refine Ct.of (own := RX4) (ls := [(0, .ref o0), (1, .int x1), (2, .int x2)]) (by decide) rfl (Nat.le_of_ble_eq_true rfl) rfl ?_
  intro X hr0 hnm hX
  refine g_aload_n hX (pc := 0) (i := 0) dX4_stock_0 rfl 0 rfl ?_
  refine gf4_3 hX (pc := 1) ho0 fl_X4_27 dX4_stock_1 ?_
  refine g_iload_n hX (pc := 4) (i := 1) dX4_stock_4 rfl 1 rfl ?_
  obtain ⟨r1, e_r1, h⟩ := bnd h
  refine g_callVi hX (pc := 5) (d := d + 2) hr0 [.int x1] (c := 3) (ct_X3_isItem (d := d + 2) (s4_3 ho0).1 e_r1) (s4_3 ho0).1.1.1 (s4_3 ho0).1.1.2 (by decide) rfl co_X3_isItem ml_X4_83 im_X3_isItem sl_X3_isItem ini_X3 nm_X3_isItem (by decide) (by decide) (Nat.le_refl _) (Nat.le_of_ble_eq_true rfl) rfl dX4_stock_5 ?_
  refine g_if_eq hX (pc := 8) dX4_stock_8 (tgt := 22) (by decide) (fun c2 => ?_) (fun c2 => ?_)
  · replace h := ifP c2 h
    refine g_iconst hX (pc := 22) (v := (-1)) dX4_stock_22 (by decide) ?_
    replace h := Option.some.inj h
    obtain ⟨rfl, hT0⟩ := Prod.mk.inj h
    obtain ⟨rfl, rfl⟩ := Prod.mk.inj hT0
    exact g_ireturn hX (by decide) (by decide) dX4_stock_23
  · replace h := ifN c2 h
    refine g_iload_n hX (pc := 11) (i := 2) dX4_stock_11 rfl 2 rfl ?_
    refine g_iconst hX (pc := 12) (v := 1) dX4_stock_12 (by decide) ?_
    refine g_icmp_lt hX (pc := 13) dX4_stock_13 (tgt := 22) (by decide) (fun c3 => ?_) (fun c3 => ?_)
    · replace h := ifP c3 h
      refine g_iconst hX (pc := 22) (v := (-1)) dX4_stock_22 (by decide) ?_
      replace h := Option.some.inj h
      obtain ⟨rfl, hT0⟩ := Prod.mk.inj h
      obtain ⟨rfl, rfl⟩ := Prod.mk.inj hT0
      exact g_ireturn hX (by decide) (by decide) dX4_stock_23
    · replace h := ifN c3 h
      refine g_iload_n hX (pc := 16) (i := 2) dX4_stock_16 rfl 2 rfl ?_
      refine g_bipush hX (pc := 17) (v := 99) dX4_stock_17 (by decide) ?_
      refine g_icmp_le hX (pc := 19) dX4_stock_19 (tgt := 24) (by decide) (fun c4 => ?_) (fun c4 => ?_)
      · replace h := ifP c4 h
        refine g_iconst hX (pc := 22) (v := (-1)) dX4_stock_22 (by decide) ?_
        replace h := Option.some.inj h
        obtain ⟨rfl, hT0⟩ := Prod.mk.inj h
        obtain ⟨rfl, rfl⟩ := Prod.mk.inj hT0
        exact g_ireturn hX (by decide) (by decide) dX4_stock_23
      · replace h := ifN c4 h
        refine g_aload_n hX (pc := 24) (i := 0) dX4_stock_24 rfl 0 rfl ?_
        obtain ⟨r5, e_r5, h⟩ := bnd h
        obtain ⟨g6, e_g6, h⟩ := bnd h
        refine g_callVv hX (pc := 25) (d := d + 2) hr0 [] (c := 4) (ct_X4_remember (d := d + 0) ho0 e_r5) ho0.1.1 ho0.1.2 (by decide) rfl co_X4_remember ml_X4_172 im_X4_remember sl_X4_remember ini_X4 nm_X4_remember (by decide) (by decide) (gd_some e_g6) (Nat.le_of_ble_eq_true rfl) rfl dX4_stock_25 ?_
        obtain ⟨g7, e_g7, h⟩ := bnd h
        refine g_aload_n hX (pc := 28) (i := 0) dX4_stock_28 rfl 0 rfl ?_
        refine gf4_5 hX (pc := 29) (gd_some e_g7) fl_X4_37 dX4_stock_29 ?_
        refine g_aload_n hX (pc := 32) (i := 0) dX4_stock_32 rfl 0 rfl ?_
        refine gf4_3 hX (pc := 33) (gd_some e_g7) fl_X4_27 dX4_stock_33 ?_
        refine g_iload_n hX (pc := 36) (i := 1) dX4_stock_36 rfl 1 rfl ?_
        refine g_iload_n hX (pc := 37) (i := 2) dX4_stock_37 rfl 2 rfl ?_
        obtain ⟨r8, e_r8, h⟩ := bnd h
        refine g_callVi hX (pc := 38) (d := d + 2) hr0 [.ref t0, .int x1, .int x2] (c := 0) (ct_X0_bringStock (d := d + 1) (s4_5 (gd_some e_g7)).1 (s4_3 (gd_some e_g7)).1 e_r8) (s4_5 (gd_some e_g7)).1.1.1 (s4_5 (gd_some e_g7)).1.1.2 (by decide) rfl co_X0_bringStock ml_X4_187 im_X0_bringStock sl_X0_bringStock ini_X0 nm_X0_bringStock (by decide) (by decide) (Nat.le_refl _) (Nat.le_of_ble_eq_true rfl) rfl dX4_stock_38 ?_
        replace h := Option.some.inj h
        obtain ⟨rfl, hT0⟩ := Prod.mk.inj h
        obtain ⟨rfl, rfl⟩ := Prod.mk.inj hT0
        exact g_ireturn hX (by decide) (by decide) dX4_stock_41
