noncomputable def f_X1_isWholeBehind (o0 : Nat) (x1 : Int32) (x2 : Int32) (I : MI) : Option (Int32) :=
  (rd 16 (I (o0 + 8)) x1).bind fun v1 =>
  (if v1 = 0 then
    some 0
  else
    (rd 16 (I (o0 + 7)) x1).bind fun v4 =>
    if (v4 &&& (x2 ^^^ ((-1)))) = 0 then
      some 1
    else
      some 0).bind fun (p6 : Int32) =>
  (gb p6).bind fun b7 =>
  some p6
theorem nm_X1_isWholeBehind : yX1_isWholeBehind.cls ≠ "java/lang/invoke/MethodHandle" ∧ yX1_isWholeBehind.cls ≠ "java/lang/invoke/VarHandle" ∧ (parseMethodDescriptor yX1_isWholeBehind.desc).map (fun d => d.parameters.length) = some 2 := by decide +kernel
set_option maxRecDepth 100000 in
set_option maxHeartbeats 4000000 in
theorem ct_X1_isWholeBehind {E : Ev} {d : Nat} {z : Sh} {J : MJ} {I : MI} {o0 : Nat} {x1 : Int32} {x2 : Int32} {rr : Int32} (ho0 : oX1 z o0) (h : f_X1_isWholeBehind o0 x1 x2 I = some rr) : Ct E (d + 0) yX1_isWholeBehind cX1_isWholeBehind 3 (some .boolean) 0 0 [.ref o0, .int x1, .int x2] z J I (some (.int rr)) z J I := by
  unfold f_X1_isWholeBehind at h
  refine Ct.of (own := RX1) (ls := [(0, .ref o0), (1, .int x1), (2, .int x2)]) (by decide) rfl (Nat.le_of_ble_eq_true rfl) rfl ?_
  intro X hr0 hnm hX
  refine g_aload_n hX (pc := 0) (i := 0) dX1_isWholeBehind_0 rfl 0 rfl ?_
  refine gf1_9 hX (pc := 1) ho0 fl_X1_40 dX1_isWholeBehind_1 ?_
  refine g_iload_n hX (pc := 4) (i := 1) dX1_isWholeBehind_4 rfl 1 rfl ?_
  obtain ⟨v1, e_v1, h⟩ := bnd h
  refine g_zaloadE hX (pc := 5) (s1_9 ho0).1 (s1_9 ho0).2.1 (s1_9 ho0).2.2.1 e_v1 dX1_isWholeBehind_5 ?_
  obtain ⟨p6, hpj3, h⟩ := bnd h
  have Kj3 : ∀ qj3 : Int32, qj3 = p6 → GW E X (QX E X 0 0 (some (.int rr)) z J I) 3 27 [(0, .ref o0), (1, .int x1), (2, .int x2)] [.int qj3] z J I 0 0 := by
    intro qj3 hqj3
    subst hqj3
    obtain ⟨b7, e_b7, h⟩ := bnd h
    obtain rfl := Option.some.inj h
    exact g_zreturn hX (gb_some e_b7).1 (Nat.le_refl _) (Nat.le_refl _) dX1_isWholeBehind_27
  replace h := hpj3
  clear hpj3
  refine g_if_eq hX (pc := 6) dX1_isWholeBehind_6 (tgt := 26) (by decide) (fun c2 => ?_) (fun c2 => ?_)
  · replace h := ifP c2 h
    refine g_iconst hX (pc := 26) (v := 0) dX1_isWholeBehind_26 (by decide) ?_
    exact Kj3 0 (Option.some.inj h)
  · replace h := ifN c2 h
    refine g_aload_n hX (pc := 9) (i := 0) dX1_isWholeBehind_9 rfl 0 rfl ?_
    refine gf1_8 hX (pc := 10) ho0 fl_X1_37 dX1_isWholeBehind_10 ?_
    refine g_iload_n hX (pc := 13) (i := 1) dX1_isWholeBehind_13 rfl 1 rfl ?_
    obtain ⟨v4, e_v4, h⟩ := bnd h
    refine g_ialoadE hX (pc := 14) (s1_8 ho0).1 (s1_8 ho0).2.1 (s1_8 ho0).2.2.1 e_v4 dX1_isWholeBehind_14 ?_
    refine g_iload_n hX (pc := 15) (i := 2) dX1_isWholeBehind_15 rfl 2 rfl ?_
    refine g_iconst hX (pc := 16) (v := (-1)) dX1_isWholeBehind_16 (by decide) ?_
    refine g_ixor hX (pc := 17) dX1_isWholeBehind_17 ?_
    refine g_iand hX (pc := 18) dX1_isWholeBehind_18 ?_
    refine g_if_ne hX (pc := 19) dX1_isWholeBehind_19 (tgt := 26) (by decide) (fun c5 => ?_) (fun c5 => ?_)
    · replace h := ifP c5 h
      refine g_iconst hX (pc := 22) (v := 1) dX1_isWholeBehind_22 (by decide) ?_
      refine g_goto hX (pc := 23) (tgt := 27) dX1_isWholeBehind_23 (by decide) ?_
      exact Kj3 1 (Option.some.inj h)
    · replace h := ifN c5 h
      refine g_iconst hX (pc := 26) (v := 0) dX1_isWholeBehind_26 (by decide) ?_
      exact Kj3 0 (Option.some.inj h)
noncomputable def f_X1_holdsBehind (o0 : Nat) (x1 : Int32) (x2 : Int32) (I : MI) : Option (Int32) :=
  (rd 16 (I (o0 + 7)) x1).bind fun v1 =>
  (if (v1 &&& x2) = 0 then
    some 0
  else
    (f_X1_isWholeBehind o0 x1 x2 I).bind fun r4 =>
    if r4 = 0 then
      some 1
    else
      some 0).bind fun (p6 : Int32) =>
  (gb p6).bind fun b7 =>
  some p6
theorem nm_X1_holdsBehind : yX1_holdsBehind.cls ≠ "java/lang/invoke/MethodHandle" ∧ yX1_holdsBehind.cls ≠ "java/lang/invoke/VarHandle" ∧ (parseMethodDescriptor yX1_holdsBehind.desc).map (fun d => d.parameters.length) = some 2 := by decide +kernel
set_option maxRecDepth 100000 in
set_option maxHeartbeats 4000000 in
theorem ct_X1_holdsBehind {E : Ev} {d : Nat} {z : Sh} {J : MJ} {I : MI} {o0 : Nat} {x1 : Int32} {x2 : Int32} {rr : Int32} (ho0 : oX1 z o0) (h : f_X1_holdsBehind o0 x1 x2 I = some rr) : Ct E (d + 1) yX1_holdsBehind cX1_holdsBehind 3 (some .boolean) 0 0 [.ref o0, .int x1, .int x2] z J I (some (.int rr)) z J I := by
  unfold f_X1_holdsBehind at h
  refine Ct.of (own := RX1) (ls := [(0, .ref o0), (1, .int x1), (2, .int x2)]) (by decide) rfl (Nat.le_of_ble_eq_true rfl) rfl ?_
  intro X hr0 hnm hX
  refine g_aload_n hX (pc := 0) (i := 0) dX1_holdsBehind_0 rfl 0 rfl ?_
  refine gf1_8 hX (pc := 1) ho0 fl_X1_37 dX1_holdsBehind_1 ?_
  refine g_iload_n hX (pc := 4) (i := 1) dX1_holdsBehind_4 rfl 1 rfl ?_
  obtain ⟨v1, e_v1, h⟩ := bnd h
  refine g_ialoadE hX (pc := 5) (s1_8 ho0).1 (s1_8 ho0).2.1 (s1_8 ho0).2.2.1 e_v1 dX1_holdsBehind_5 ?_
  refine g_iload_n hX (pc := 6) (i := 2) dX1_holdsBehind_6 rfl 2 rfl ?_
  refine g_iand hX (pc := 7) dX1_holdsBehind_7 ?_
  obtain ⟨p6, hpj3, h⟩ := bnd h
  have Kj3 : ∀ qj3 : Int32, qj3 = p6 → GW E X (QX E X 0 0 (some (.int rr)) z J I) 3 25 [(0, .ref o0), (1, .int x1), (2, .int x2)] [.int qj3] z J I 0 0 := by
    intro qj3 hqj3
    subst hqj3
    obtain ⟨b7, e_b7, h⟩ := bnd h
    obtain rfl := Option.some.inj h
    exact g_zreturn hX (gb_some e_b7).1 (Nat.le_refl _) (Nat.le_refl _) dX1_holdsBehind_25
  replace h := hpj3
  clear hpj3
  refine g_if_eq hX (pc := 8) dX1_holdsBehind_8 (tgt := 24) (by decide) (fun c2 => ?_) (fun c2 => ?_)
  · replace h := ifP c2 h
    refine g_iconst hX (pc := 24) (v := 0) dX1_holdsBehind_24 (by decide) ?_
    exact Kj3 0 (Option.some.inj h)
  · replace h := ifN c2 h
    refine g_aload_n hX (pc := 11) (i := 0) dX1_holdsBehind_11 rfl 0 rfl ?_
    refine g_iload_n hX (pc := 12) (i := 1) dX1_holdsBehind_12 rfl 1 rfl ?_
    refine g_iload_n hX (pc := 13) (i := 2) dX1_holdsBehind_13 rfl 2 rfl ?_
    obtain ⟨r4, e_r4, h⟩ := bnd h
    refine g_callVi hX (pc := 14) (d := d + 0) hr0 [.int x1, .int x2] (c := 1) (ct_X1_isWholeBehind (d := d + 0) ho0 e_r4) ho0.1.1 ho0.1.2 (by decide) rfl co_X1_isWholeBehind ml_X1_135 im_X1_isWholeBehind sl_X1_isWholeBehind ini_X1 nm_X1_isWholeBehind (by decide) ⟨Nat.le_refl _, Nat.le_refl _⟩ (Nat.le_refl _) (Nat.le_of_ble_eq_true rfl) rfl dX1_holdsBehind_14 ?_
    refine g_if_ne hX (pc := 17) dX1_holdsBehind_17 (tgt := 24) (by decide) (fun c5 => ?_) (fun c5 => ?_)
    · replace h := ifP c5 h
      refine g_iconst hX (pc := 20) (v := 1) dX1_holdsBehind_20 (by decide) ?_
      refine g_goto hX (pc := 21) (tgt := 25) dX1_holdsBehind_21 (by decide) ?_
      exact Kj3 1 (Option.some.inj h)
    · replace h := ifN c5 h
      refine g_iconst hX (pc := 24) (v := 0) dX1_holdsBehind_24 (by decide) ?_
      exact Kj3 0 (Option.some.inj h)
noncomputable def b_X1_peak_6 (o0 : Nat) (o1 : Nat) (x2 : Int32) (I : MI) (s : Int32 × Int32) : Option ((Int32 × Int32) ⊕ (Int32 × Int32)) :=
  if s.2 < (I o1 10) then
    (f_X1_holdsBehind o0 s.2 x2 I).bind fun r5 =>
    (if r5 = 0 then
      some s.1
    else
      some (s.1 + 1)).bind fun (p8 : Int32) =>
    some (.inl ((p8, s.2 + 1)))
  else
    some (.inr ((s.1, s.2)))
noncomputable def b_X1_peak_41 (o0 : Nat) (o1 : Nat) (x2 : Int32) (x3 : Int32) (I : MI) (s : Int32 × Int32 × Int32) : Option ((Int32 × Int32 × Int32) ⊕ (Int32 × Int32 × Int32)) :=
  if s.2.2 < (I o1 10) then
    (rd 16 (I (o1 + 9)) s.2.2).bind fun v15 =>
    (rd 16 (I (o0 + 7)) v15).bind fun v16 =>
    (f_X4_hasBit v16 x3).bind fun r17 =>
    (if r17 = 0 then
      some ((s.1, s.2.1))
    else
      (f_X1_holdsBehind o0 v15 x2 I).bind fun r20 =>
      (if r20 = 0 then
        some (s.1 + 1)
      else
        some s.1).bind fun (p23 : Int32) =>
      (f_X1_isWholeBehind o0 v15 (x2 ||| ((1 : Int32) <<< (x3 &&& 31))) I).bind fun r24 =>
      if r24 = 0 then
        some ((p23, imax s.2.1 p23))
      else
        some ((p23 + (-1), imax s.2.1 p23))).bind fun (p26 : Int32 × Int32) =>
    some (.inl ((p26.1, p26.2, s.2.2 + 1)))
  else
    some (.inr ((s.1, s.2.1, s.2.2)))
noncomputable def f_X1_peak (o0 : Nat) (o1 : Nat) (x2 : Int32) (x3 : Int32) (I : MI) : Option (Int32) :=
  (lp (b_X1_peak_6 o0 o1 x2 I) ((0, 0))).bind fun p9 =>
  (lp (b_X1_peak_41 o0 o1 x2 x3 I) ((p9.1, p9.1, 0))).bind fun p27 =>
  some p27.2.1
theorem nm_X1_peak : yX1_peak.cls ≠ "java/lang/invoke/MethodHandle" ∧ yX1_peak.cls ≠ "java/lang/invoke/VarHandle" ∧ (parseMethodDescriptor yX1_peak.desc).map (fun d => d.parameters.length) = some 3 := by decide +kernel
set_option maxRecDepth 100000 in
set_option maxHeartbeats 4000000 in
theorem ct_X1_peak {E : Ev} {d : Nat} {z : Sh} {J : MJ} {I : MI} {o0 : Nat} {o1 : Nat} {x2 : Int32} {x3 : Int32} {rr : Int32} (ho0 : oX1 z o0) (ho1 : oX3 z o1) (h : f_X1_peak o0 o1 x2 x3 I = some rr) : Ct E (d + 2) yX1_peak cX1_peak 8 (some .int) 0 0 [.ref o0, .ref o1, .int x2, .int x3] z J I (some (.int rr)) z J I := by
  unfold f_X1_peak at h
  refine Ct.of (own := RX1) (ls := [(0, .ref o0), (1, .ref o1), (2, .int x2), (3, .int x3)]) (by decide) rfl (Nat.le_of_ble_eq_true rfl) rfl ?_
  intro X hr0 hnm hX
  refine g_iconst hX (pc := 0) (v := 0) dX1_peak_0 (by decide) ?_
  refine g_istore hX (pc := 1) (ls' := [(0, .ref o0), (1, .ref o1), (2, .int x2), (3, .int x3), (4, .int 0)]) [1, 2, 3, 4, 0] dX1_peak_1 (by decide) rfl ?_
  refine g_iconst hX (pc := 3) (v := 0) dX1_peak_3 (by decide) ?_
  refine g_istore hX (pc := 4) (ls' := [(0, .ref o0), (1, .ref o1), (2, .int x2), (3, .int x3), (4, .int 0), (5, .int 0)]) [1, 2, 3, 4, 5, 0] dX1_peak_4 (by decide) rfl ?_
  obtain ⟨p9, hpl3, h⟩ := bnd h
  have Kl3 : ∀ ql3 : Int32 × Int32, ql3 = p9 → GW E X (QX E X 0 0 (some (.int rr)) z J I) 8 34 [(0, .ref o0), (1, .ref o1), (2, .int x2), (3, .int x3), (4, .int ql3.1), (5, .int ql3.2)] [] z J I 0 0 := by
    intro ql3 hql3
    subst hql3
    refine g_iload hX (pc := 34) dX1_peak_34 4 rfl ?_
    refine g_istore hX (pc := 36) (ls' := [(0, .ref o0), (1, .ref o1), (2, .int x2), (3, .int x3), (4, .int ql3.1), (5, .int ql3.1)]) [1, 2, 3, 4, 5, 0] dX1_peak_36 (by decide) rfl ?_
    refine g_iconst hX (pc := 38) (v := 0) dX1_peak_38 (by decide) ?_
    refine g_istore hX (pc := 39) (ls' := [(0, .ref o0), (1, .ref o1), (2, .int x2), (3, .int x3), (4, .int ql3.1), (5, .int ql3.1), (6, .int 0)]) [1, 2, 3, 4, 5, 6, 0] dX1_peak_39 (by decide) rfl ?_
    obtain ⟨p27, hpl13, h⟩ := bnd h
    have Kl13 : ∀ ql13 : Int32 × Int32 × Int32, ql13 = p27 → GW E X (QX E X 0 0 (some (.int rr)) z J I) 8 121 [(0, .ref o0), (1, .ref o1), (2, .int x2), (3, .int x3), (4, .int ql13.1), (5, .int ql13.2.1), (6, .int ql13.2.2)] [] z J I 0 0 := by
      intro ql13 hql13
      subst hql13
      refine g_iload hX (pc := 121) dX1_peak_121 5 rfl ?_
      obtain rfl := Option.some.inj h
      exact g_ireturn hX (Nat.le_refl _) (Nat.le_refl _) dX1_peak_123
    obtain ⟨kl13, hkl13⟩ := lp_ex hpl13
    clear hpl13 h
    have Ll13 : ∀ k : Nat, ∀ (s10 : Int32) (s11 : Int32) (s12 : Int32), lpN k (b_X1_peak_41 o0 o1 x2 x3 I) ((s10, s11, s12)) = some p27 → GW E X (QX E X 0 0 (some (.int rr)) z J I) 8 41 [(0, .ref o0), (1, .ref o1), (2, .int x2), (3, .int x3), (4, .int s10), (5, .int s11), (6, .int s12)] [] z J I 0 0 := by
      intro k
      induction k with
      | zero => intro s10 s11 s12 h; cases h
      | succ k ihl13 =>
        intro s10 s11 s12 h
        obtain ⟨wl13, h, hwl13⟩ := lpN_s h
        unfold b_X1_peak_41 at h
        try dsimp only at h
        refine g_iload hX (pc := 41) dX1_peak_41 6 rfl ?_
        refine g_aload_n hX (pc := 43) (i := 1) dX1_peak_43 rfl 1 rfl ?_
        refine gf3_10 hX (pc := 44) ho1 fl_X1_87 dX1_peak_44 ?_
        refine g_icmp_ge hX (pc := 47) dX1_peak_47 (tgt := 121) (by decide) (fun c14 => ?_) (fun c14 => ?_)
        · replace h := ifP c14 h
          refine g_aload_n hX (pc := 50) (i := 1) dX1_peak_50 rfl 1 rfl ?_
          refine gf3_16 hX (pc := 51) ho1 fl_X1_125 dX1_peak_51 ?_
          refine g_iload hX (pc := 54) dX1_peak_54 6 rfl ?_
          obtain ⟨v15, e_v15, h⟩ := bnd h
          refine g_ialoadE hX (pc := 56) (s3_16 ho1).1 (s3_16 ho1).2.1 (s3_16 ho1).2.2.1 e_v15 dX1_peak_56 ?_
          refine g_istore hX (pc := 57) (ls' := [(0, .ref o0), (1, .ref o1), (2, .int x2), (3, .int x3), (4, .int s10), (5, .int s11), (6, .int s12), (7, .int v15)]) [1, 2, 3, 4, 5, 6, 7, 0] dX1_peak_57 (by decide) rfl ?_
          refine g_aload_n hX (pc := 59) (i := 0) dX1_peak_59 rfl 0 rfl ?_
          refine gf1_8 hX (pc := 60) ho0 fl_X1_37 dX1_peak_60 ?_
          refine g_iload hX (pc := 63) dX1_peak_63 7 rfl ?_
          obtain ⟨v16, e_v16, h⟩ := bnd h
          refine g_ialoadE hX (pc := 65) (s1_8 ho0).1 (s1_8 ho0).2.1 (s1_8 ho0).2.2.1 e_v16 dX1_peak_65 ?_
          refine g_iload_n hX (pc := 66) (i := 3) dX1_peak_66 rfl 3 rfl ?_
          obtain ⟨r17, e_r17, h⟩ := bnd h
          refine g_callSNi hX (pc := 67) (d := d + 1) hr0 [.int v16, .int x3] (host := RX4) (ct_X4_hasBit (d := d + 1)  e_r17) co_X4_hasBit (by decide) sta_X4_hasBit ini_X4 nm_X4_hasBit (by decide) ⟨Nat.le_refl _, Nat.le_refl _⟩ (Nat.le_refl _) (Nat.le_of_ble_eq_true rfl) rfl dX1_peak_67 ?_
          obtain ⟨p26, hpj19, h⟩ := bnd h
          have Kj19 : ∀ qj19 : Int32 × Int32, qj19 = p26 → GW E X (QX E X 0 0 (some (.int rr)) z J I) 8 115 [(0, .ref o0), (1, .ref o1), (2, .int x2), (3, .int x3), (4, .int qj19.1), (5, .int qj19.2), (6, .int s12), (7, .int v15)] [] z J I 0 0 := by
            intro qj19 hqj19
            subst hqj19
            refine g_iinc hX (pc := 115) (i := 6) (v := s12 + 1) (ls' := [(0, .ref o0), (1, .ref o1), (2, .int x2), (3, .int x3), (4, .int qj19.1), (5, .int qj19.2), (6, .int (s12 + 1)), (7, .int v15)]) 6 [1, 2, 3, 4, 5, 6, 0, 7] dX1_peak_115 rfl (by rfl) (by decide) rfl ?_
            refine g_goto hX (pc := 118) (tgt := 41) dX1_peak_118 (by decide) ?_
            refine g_sub (ls' := [(0, .ref o0), (1, .ref o1), (2, .int x2), (3, .int x3), (4, .int qj19.1), (5, .int qj19.2), (6, .int (s12 + 1))]) [0, 1, 2, 3, 4, 5, 6] rfl ?_
            obtain rfl := Option.some.inj h
            exact ihl13 qj19.1 qj19.2 (s12 + 1) hwl13
          replace h := hpj19
          clear hpj19
          refine g_if_ne hX (pc := 70) dX1_peak_70 (tgt := 76) (by decide) (fun c18 => ?_) (fun c18 => ?_)
          · replace h := ifP c18 h
            refine g_goto hX (pc := 73) (tgt := 115) dX1_peak_73 (by decide) ?_
            exact Kj19 ((s10, s11)) (Option.some.inj h)
          · replace h := ifN c18 h
            refine g_aload_n hX (pc := 76) (i := 0) dX1_peak_76 rfl 0 rfl ?_
            refine g_iload hX (pc := 77) dX1_peak_77 7 rfl ?_
            refine g_iload_n hX (pc := 79) (i := 2) dX1_peak_79 rfl 2 rfl ?_
            obtain ⟨r20, e_r20, h⟩ := bnd h
            refine g_callVi hX (pc := 80) (d := d + 1) hr0 [.int v15, .int x2] (c := 1) (ct_X1_holdsBehind (d := d + 0) ho0 e_r20) ho0.1.1 ho0.1.2 (by decide) rfl co_X1_holdsBehind ml_X1_138 im_X1_holdsBehind sl_X1_holdsBehind ini_X1 nm_X1_holdsBehind (by decide) ⟨Nat.le_refl _, Nat.le_refl _⟩ (Nat.le_refl _) (Nat.le_of_ble_eq_true rfl) rfl dX1_peak_80 ?_
            obtain ⟨p23, hpj22, h⟩ := bnd h
            have Kj22 : ∀ qj22 : Int32, qj22 = p23 → GW E X (QX E X 0 0 (some (.int rr)) z J I) 8 89 [(0, .ref o0), (1, .ref o1), (2, .int x2), (3, .int x3), (4, .int qj22), (5, .int s11), (6, .int s12), (7, .int v15)] [] z J I 0 0 := by
              intro qj22 hqj22
              subst hqj22
              refine g_iload hX (pc := 89) dX1_peak_89 5 rfl ?_
              refine g_iload hX (pc := 91) dX1_peak_91 4 rfl ?_
              refine g_mmax (d := d + 1) hX (pc := 93) hr0 ml_X1_103 (by exact Nat.le_of_ble_eq_true rfl) ⟨Nat.zero_le _, Nat.zero_le _⟩ dX1_peak_93 ?_
              refine g_istore hX (pc := 96) (ls' := [(0, .ref o0), (1, .ref o1), (2, .int x2), (3, .int x3), (4, .int qj22), (5, .int (imax s11 qj22)), (6, .int s12), (7, .int v15)]) [1, 2, 3, 4, 5, 0, 6, 7] dX1_peak_96 (by decide) rfl ?_
              refine g_aload_n hX (pc := 98) (i := 0) dX1_peak_98 rfl 0 rfl ?_
              refine g_iload hX (pc := 99) dX1_peak_99 7 rfl ?_
              refine g_iload_n hX (pc := 101) (i := 2) dX1_peak_101 rfl 2 rfl ?_
              refine g_iconst hX (pc := 102) (v := 1) dX1_peak_102 (by decide) ?_
              refine g_iload_n hX (pc := 103) (i := 3) dX1_peak_103 rfl 3 rfl ?_
              refine g_ishl hX (pc := 104) dX1_peak_104 ?_
              refine g_ior hX (pc := 105) dX1_peak_105 ?_
              obtain ⟨r24, e_r24, h⟩ := bnd h
              refine g_callVi hX (pc := 106) (d := d + 1) hr0 [.int v15, .int (x2 ||| ((1 : Int32) <<< (x3 &&& 31)))] (c := 1) (ct_X1_isWholeBehind (d := d + 1) ho0 e_r24) ho0.1.1 ho0.1.2 (by decide) rfl co_X1_isWholeBehind ml_X1_135 im_X1_isWholeBehind sl_X1_isWholeBehind ini_X1 nm_X1_isWholeBehind (by decide) ⟨Nat.le_refl _, Nat.le_refl _⟩ (Nat.le_refl _) (Nat.le_of_ble_eq_true rfl) rfl dX1_peak_106 ?_
              refine g_if_eq hX (pc := 109) dX1_peak_109 (tgt := 115) (by decide) (fun c25 => ?_) (fun c25 => ?_)
              · replace h := ifP c25 h
                exact Kj19 ((qj22, imax s11 qj22)) (Option.some.inj h)
              · replace h := ifN c25 h
                refine g_iinc hX (pc := 112) (i := 4) (v := qj22 + (-1)) (ls' := [(0, .ref o0), (1, .ref o1), (2, .int x2), (3, .int x3), (4, .int (qj22 + (-1))), (5, .int (imax s11 qj22)), (6, .int s12), (7, .int v15)]) 4 [1, 2, 3, 4, 0, 5, 6, 7] dX1_peak_112 rfl (by rfl) (by decide) rfl ?_
                exact Kj19 ((qj22 + (-1), imax s11 qj22)) (Option.some.inj h)
            replace h := hpj22
            clear hpj22
            refine g_if_ne hX (pc := 83) dX1_peak_83 (tgt := 89) (by decide) (fun c21 => ?_) (fun c21 => ?_)
            · replace h := ifP c21 h
              refine g_iinc hX (pc := 86) (i := 4) (v := s10 + 1) (ls' := [(0, .ref o0), (1, .ref o1), (2, .int x2), (3, .int x3), (4, .int (s10 + 1)), (5, .int s11), (6, .int s12), (7, .int v15)]) 4 [1, 2, 3, 4, 0, 5, 6, 7] dX1_peak_86 rfl (by rfl) (by decide) rfl ?_
              exact Kj22 (s10 + 1) (Option.some.inj h)
            · replace h := ifN c21 h
              exact Kj22 s10 (Option.some.inj h)
        · replace h := ifN c14 h
          obtain rfl := Option.some.inj h
          exact Kl13 ((s10, s11, s12)) hwl13
    exact Ll13 kl13 ql3.1 ql3.1 0 hkl13
  obtain ⟨kl3, hkl3⟩ := lp_ex hpl3
  clear hpl3 h
  have Ll3 : ∀ k : Nat, ∀ (s1 : Int32) (s2 : Int32), lpN k (b_X1_peak_6 o0 o1 x2 I) ((s1, s2)) = some p9 → GW E X (QX E X 0 0 (some (.int rr)) z J I) 8 6 [(0, .ref o0), (1, .ref o1), (2, .int x2), (3, .int x3), (4, .int s1), (5, .int s2)] [] z J I 0 0 := by
    intro k
    induction k with
    | zero => intro s1 s2 h; cases h
    | succ k ihl3 =>
      intro s1 s2 h
      obtain ⟨wl3, h, hwl3⟩ := lpN_s h
      unfold b_X1_peak_6 at h
      try dsimp only at h
      refine g_iload hX (pc := 6) dX1_peak_6 5 rfl ?_
      refine g_aload_n hX (pc := 8) (i := 1) dX1_peak_8 rfl 1 rfl ?_
      refine gf3_10 hX (pc := 9) ho1 fl_X1_87 dX1_peak_9 ?_
      refine g_icmp_ge hX (pc := 12) dX1_peak_12 (tgt := 34) (by decide) (fun c4 => ?_) (fun c4 => ?_)
      · replace h := ifP c4 h
        refine g_aload_n hX (pc := 15) (i := 0) dX1_peak_15 rfl 0 rfl ?_
        refine g_iload hX (pc := 16) dX1_peak_16 5 rfl ?_
        refine g_iload_n hX (pc := 18) (i := 2) dX1_peak_18 rfl 2 rfl ?_
        obtain ⟨r5, e_r5, h⟩ := bnd h
        refine g_callVi hX (pc := 19) (d := d + 1) hr0 [.int s2, .int x2] (c := 1) (ct_X1_holdsBehind (d := d + 0) ho0 e_r5) ho0.1.1 ho0.1.2 (by decide) rfl co_X1_holdsBehind ml_X1_138 im_X1_holdsBehind sl_X1_holdsBehind ini_X1 nm_X1_holdsBehind (by decide) ⟨Nat.le_refl _, Nat.le_refl _⟩ (Nat.le_refl _) (Nat.le_of_ble_eq_true rfl) rfl dX1_peak_19 ?_
        obtain ⟨p8, hpj7, h⟩ := bnd h
        have Kj7 : ∀ qj7 : Int32, qj7 = p8 → GW E X (QX E X 0 0 (some (.int rr)) z J I) 8 28 [(0, .ref o0), (1, .ref o1), (2, .int x2), (3, .int x3), (4, .int qj7), (5, .int s2)] [] z J I 0 0 := by
          intro qj7 hqj7
          subst hqj7
          refine g_iinc hX (pc := 28) (i := 5) (v := s2 + 1) (ls' := [(0, .ref o0), (1, .ref o1), (2, .int x2), (3, .int x3), (4, .int qj7), (5, .int (s2 + 1))]) 5 [1, 2, 3, 4, 5, 0] dX1_peak_28 rfl (by rfl) (by decide) rfl ?_
          refine g_goto hX (pc := 31) (tgt := 6) dX1_peak_31 (by decide) ?_
          obtain rfl := Option.some.inj h
          exact ihl3 qj7 (s2 + 1) hwl3
        replace h := hpj7
        clear hpj7
        refine g_if_eq hX (pc := 22) dX1_peak_22 (tgt := 28) (by decide) (fun c6 => ?_) (fun c6 => ?_)
        · replace h := ifP c6 h
          exact Kj7 s1 (Option.some.inj h)
        · replace h := ifN c6 h
          refine g_iinc hX (pc := 25) (i := 4) (v := s1 + 1) (ls' := [(0, .ref o0), (1, .ref o1), (2, .int x2), (3, .int x3), (4, .int (s1 + 1)), (5, .int s2)]) 4 [1, 2, 3, 4, 0, 5] dX1_peak_25 rfl (by rfl) (by decide) rfl ?_
          exact Kj7 (s1 + 1) (Option.some.inj h)
      · replace h := ifN c4 h
        obtain rfl := Option.some.inj h
        exact Kl3 ((s1, s2)) hwl3
  exact Ll3 kl3 0 0 hkl3
noncomputable def b_X1_sortByNumber_12 (o0 : Nat) (s1 : Int32) (s : Int32 × MI) : Option ((Int32 × MI) ⊕ (Int32 × MI)) :=
  if 0 < s.1 then
    (rd 10 (s.2 (o0 + 6)) (s.1 - 1)).bind fun v9 =>
    (rd 10 (s.2 (o0 + 1)) s1).bind fun v10 =>
    if v10 < v9 then
      (rd 10 (s.2 (o0 + 6)) (s.1 - 1)).bind fun v12 =>
      (wr 10 s.2 (o0 + 6) s.1 v12).bind fun I13 =>
      some (.inl ((s.1 + (-1), I13)))
    else
      some (.inr ((s.1, s.2)))
  else
    some (.inr ((s.1, s.2)))
noncomputable def b_X1_sortByNumber_2 (o0 : Nat) (s : Int32 × MI) : Option ((Int32 × MI) ⊕ (Int32 × MI)) :=
  if s.1 < (s.2 o0 1) then
    (lp (b_X1_sortByNumber_12 o0 s.1) ((s.1, s.2))).bind fun p14 =>
    (rd 10 (p14.2 (o0 + 1)) s.1).bind fun v15 =>
    (wr 10 p14.2 (o0 + 6) p14.1 v15).bind fun I16 =>
    some (.inl ((s.1 + 1, I16)))
  else
    some (.inr ((s.1, s.2)))
noncomputable def f_X1_sortByNumber (o0 : Nat) (I : MI) : Option (MI) :=
  (lp (b_X1_sortByNumber_2 o0) ((0, I))).bind fun p17 =>
  some p17.2
theorem nm_X1_sortByNumber : yX1_sortByNumber.cls ≠ "java/lang/invoke/MethodHandle" ∧ yX1_sortByNumber.cls ≠ "java/lang/invoke/VarHandle" ∧ (parseMethodDescriptor yX1_sortByNumber.desc).map (fun d => d.parameters.length) = some 0 := by decide +kernel
set_option maxRecDepth 100000 in
set_option maxHeartbeats 4000000 in
theorem ct_X1_sortByNumber {E : Ev} {d : Nat} {z : Sh} {J : MJ} {I : MI} {o0 : Nat} {Iz : MI} (ho0 : oX1 z o0) (h : f_X1_sortByNumber o0 I = some Iz) : Ct E (d + 0) yX1_sortByNumber cX1_sortByNumber 3 none 0 0 [.ref o0] z J I none z J Iz := by
  unfold f_X1_sortByNumber at h
  refine Ct.of (own := RX1) (ls := [(0, .ref o0)]) (by decide) rfl (Nat.le_of_ble_eq_true rfl) rfl ?_
  intro X hr0 hnm hX
  refine g_iconst hX (pc := 0) (v := 0) dX1_sortByNumber_0 (by decide) ?_
  refine g_istore_n hX (pc := 1) (i := 1) (ls' := [(0, .ref o0), (1, .int 0)]) [1, 0] dX1_sortByNumber_1 rfl (by decide) rfl ?_
  obtain ⟨p17, hpl3, h⟩ := bnd h
  have Kl3 : ∀ ql3 : Int32 × MI, ql3 = p17 → GW E X (QX E X 0 0 none z J Iz) 3 71 [(0, .ref o0), (1, .int ql3.1)] [] z J ql3.2 0 0 := by
    intro ql3 hql3
    subst hql3
    obtain rfl := Option.some.inj h
    exact g_return hX (Nat.le_refl _) (Nat.le_refl _) dX1_sortByNumber_71
  obtain ⟨kl3, hkl3⟩ := lp_ex hpl3
  clear hpl3 h
  have Ll3 : ∀ k : Nat, ∀ (s1 : Int32) (I2 : MI), lpN k (b_X1_sortByNumber_2 o0) ((s1, I2)) = some p17 → GW E X (QX E X 0 0 none z J Iz) 3 2 [(0, .ref o0), (1, .int s1)] [] z J I2 0 0 := by
    intro k
    induction k with
    | zero => intro s1 I2 h; cases h
    | succ k ihl3 =>
      intro s1 I2 h
      obtain ⟨wl3, h, hwl3⟩ := lpN_s h
      unfold b_X1_sortByNumber_2 at h
      try dsimp only at h
      refine g_iload_n hX (pc := 2) (i := 1) dX1_sortByNumber_2 rfl 1 rfl ?_
      refine g_aload_n hX (pc := 3) (i := 0) dX1_sortByNumber_3 rfl 0 rfl ?_
      refine gf1_1 hX (pc := 4) ho0 fl_X1_15 dX1_sortByNumber_4 ?_
      refine g_icmp_ge hX (pc := 7) dX1_sortByNumber_7 (tgt := 71) (by decide) (fun c4 => ?_) (fun c4 => ?_)
      · replace h := ifP c4 h
        refine g_iload_n hX (pc := 10) (i := 1) dX1_sortByNumber_10 rfl 1 rfl ?_
        refine g_istore_n hX (pc := 11) (i := 2) (ls' := [(0, .ref o0), (1, .int s1), (2, .int s1)]) [1, 2, 0] dX1_sortByNumber_11 rfl (by decide) rfl ?_
        obtain ⟨p14, hpl7, h⟩ := bnd h
        have Kl7 : ∀ ql7 : Int32 × MI, ql7 = p14 → GW E X (QX E X 0 0 none z J Iz) 3 53 [(0, .ref o0), (1, .int s1), (2, .int ql7.1)] [] z J ql7.2 0 0 := by
          intro ql7 hql7
          subst hql7
          refine g_aload_n hX (pc := 53) (i := 0) dX1_sortByNumber_53 rfl 0 rfl ?_
          refine gf1_7 hX (pc := 54) ho0 fl_X1_34 dX1_sortByNumber_54 ?_
          refine g_iload_n hX (pc := 57) (i := 2) dX1_sortByNumber_57 rfl 2 rfl ?_
          refine g_aload_n hX (pc := 58) (i := 0) dX1_sortByNumber_58 rfl 0 rfl ?_
          refine gf1_2 hX (pc := 59) ho0 fl_X1_18 dX1_sortByNumber_59 ?_
          refine g_iload_n hX (pc := 62) (i := 1) dX1_sortByNumber_62 rfl 1 rfl ?_
          obtain ⟨v15, e_v15, h⟩ := bnd h
          refine g_ialoadE hX (pc := 63) (s1_2 ho0).1 (s1_2 ho0).2.1 (s1_2 ho0).2.2.1 e_v15 dX1_sortByNumber_63 ?_
          obtain ⟨I16, e_I16, h⟩ := bnd h
          refine g_iastoreE hX (pc := 64) (s1_7 ho0).1 (s1_7 ho0).2.1 (s1_7 ho0).2.2.1 e_I16 dX1_sortByNumber_64 ?_
          refine g_iinc hX (pc := 65) (i := 1) (v := s1 + 1) (ls' := [(0, .ref o0), (1, .int (s1 + 1)), (2, .int ql7.1)]) 1 [1, 0, 2] dX1_sortByNumber_65 rfl (by rfl) (by decide) rfl ?_
          refine g_goto hX (pc := 68) (tgt := 2) dX1_sortByNumber_68 (by decide) ?_
          refine g_sub (ls' := [(0, .ref o0), (1, .int (s1 + 1))]) [0, 1] rfl ?_
          obtain rfl := Option.some.inj h
          exact ihl3 (s1 + 1) I16 hwl3
        obtain ⟨kl7, hkl7⟩ := lp_ex hpl7
        clear hpl7 h
        have Ll7 : ∀ k : Nat, ∀ (s5 : Int32) (I6 : MI), lpN k (b_X1_sortByNumber_12 o0 s1) ((s5, I6)) = some p14 → GW E X (QX E X 0 0 none z J Iz) 3 12 [(0, .ref o0), (1, .int s1), (2, .int s5)] [] z J I6 0 0 := by
          intro k
          induction k with
          | zero => intro s5 I6 h; cases h
          | succ k ihl7 =>
            intro s5 I6 h
            obtain ⟨wl7, h, hwl7⟩ := lpN_s h
            unfold b_X1_sortByNumber_12 at h
            try dsimp only at h
            refine g_iload_n hX (pc := 12) (i := 2) dX1_sortByNumber_12 rfl 2 rfl ?_
            refine g_if_le hX (pc := 13) dX1_sortByNumber_13 (tgt := 53) (by decide) (fun c8 => ?_) (fun c8 => ?_)
            · replace h := ifP c8 h
              refine g_aload_n hX (pc := 16) (i := 0) dX1_sortByNumber_16 rfl 0 rfl ?_
              refine gf1_7 hX (pc := 17) ho0 fl_X1_34 dX1_sortByNumber_17 ?_
              refine g_iload_n hX (pc := 20) (i := 2) dX1_sortByNumber_20 rfl 2 rfl ?_
              refine g_iconst hX (pc := 21) (v := 1) dX1_sortByNumber_21 (by decide) ?_
              refine g_isub hX (pc := 22) dX1_sortByNumber_22 ?_
              obtain ⟨v9, e_v9, h⟩ := bnd h
              refine g_ialoadE hX (pc := 23) (s1_7 ho0).1 (s1_7 ho0).2.1 (s1_7 ho0).2.2.1 e_v9 dX1_sortByNumber_23 ?_
              refine g_aload_n hX (pc := 24) (i := 0) dX1_sortByNumber_24 rfl 0 rfl ?_
              refine gf1_2 hX (pc := 25) ho0 fl_X1_18 dX1_sortByNumber_25 ?_
              refine g_iload_n hX (pc := 28) (i := 1) dX1_sortByNumber_28 rfl 1 rfl ?_
              obtain ⟨v10, e_v10, h⟩ := bnd h
              refine g_ialoadE hX (pc := 29) (s1_2 ho0).1 (s1_2 ho0).2.1 (s1_2 ho0).2.2.1 e_v10 dX1_sortByNumber_29 ?_
              refine g_icmp_le hX (pc := 30) dX1_sortByNumber_30 (tgt := 53) (by decide) (fun c11 => ?_) (fun c11 => ?_)
              · replace h := ifP c11 h
                refine g_aload_n hX (pc := 33) (i := 0) dX1_sortByNumber_33 rfl 0 rfl ?_
                refine gf1_7 hX (pc := 34) ho0 fl_X1_34 dX1_sortByNumber_34 ?_
                refine g_iload_n hX (pc := 37) (i := 2) dX1_sortByNumber_37 rfl 2 rfl ?_
                refine g_aload_n hX (pc := 38) (i := 0) dX1_sortByNumber_38 rfl 0 rfl ?_
                refine gf1_7 hX (pc := 39) ho0 fl_X1_34 dX1_sortByNumber_39 ?_
                refine g_iload_n hX (pc := 42) (i := 2) dX1_sortByNumber_42 rfl 2 rfl ?_
                refine g_iconst hX (pc := 43) (v := 1) dX1_sortByNumber_43 (by decide) ?_
                refine g_isub hX (pc := 44) dX1_sortByNumber_44 ?_
                obtain ⟨v12, e_v12, h⟩ := bnd h
                refine g_ialoadE hX (pc := 45) (s1_7 ho0).1 (s1_7 ho0).2.1 (s1_7 ho0).2.2.1 e_v12 dX1_sortByNumber_45 ?_
                obtain ⟨I13, e_I13, h⟩ := bnd h
                refine g_iastoreE hX (pc := 46) (s1_7 ho0).1 (s1_7 ho0).2.1 (s1_7 ho0).2.2.1 e_I13 dX1_sortByNumber_46 ?_
                refine g_iinc hX (pc := 47) (i := 2) (v := s5 + (-1)) (ls' := [(0, .ref o0), (1, .int s1), (2, .int (s5 + (-1)))]) 2 [1, 2, 0] dX1_sortByNumber_47 rfl (by rfl) (by decide) rfl ?_
                refine g_goto hX (pc := 50) (tgt := 12) dX1_sortByNumber_50 (by decide) ?_
                obtain rfl := Option.some.inj h
                exact ihl7 (s5 + (-1)) I13 hwl7
              · replace h := ifN c11 h
                obtain rfl := Option.some.inj h
                exact Kl7 ((s5, I6)) hwl7
            · replace h := ifN c8 h
              obtain rfl := Option.some.inj h
              exact Kl7 ((s5, I6)) hwl7
        exact Ll7 kl7 s1 I2 hkl7
      · replace h := ifN c4 h
        obtain rfl := Option.some.inj h
        exact Kl3 ((s1, I2)) hwl3
  exact Ll3 kl3 0 I hkl3
noncomputable def b_X1_needsBy_6 (o0 : Nat) (x2 : Int32) (I : MI) (s : Int32 × Int32) : Option ((Int32 × Int32) ⊕ (Int32 × Int32)) :=
  if s.2 < (I o0 1) then
    (f_X4_hasBit x2 s.2).bind fun r5 =>
    (if r5 = 0 then
      some s.1
    else
      (rd 10 (I (o0 + 6)) s.2).bind fun v8 =>
      some (s.1 ||| ((1 : Int32) <<< (v8 &&& 31)))).bind fun (p9 : Int32) =>
    some (.inl ((p9, s.2 + 1)))
  else
    some (.inr ((s.1, s.2)))
noncomputable def f_X1_needsBy (o0 : Nat) (o1 : Nat) (x2 : Int32) (x3 : Int32) (I : MI) : Option (Int32) :=
  (lp (b_X1_needsBy_6 o0 x2 I) ((0, 0))).bind fun p10 =>
  (rd 10 (I (o0 + 6)) x3).bind fun v11 =>
  (f_X1_peak o0 o1 p10.1 v11 I).bind fun r12 =>
  (rd 64 (I (o0 + 5)) (x2 ||| ((1 : Int32) <<< (x3 &&& 31)))).bind fun v13 =>
  some (imax r12 v13)
theorem nm_X1_needsBy : yX1_needsBy.cls ≠ "java/lang/invoke/MethodHandle" ∧ yX1_needsBy.cls ≠ "java/lang/invoke/VarHandle" ∧ (parseMethodDescriptor yX1_needsBy.desc).map (fun d => d.parameters.length) = some 3 := by decide +kernel
set_option maxRecDepth 100000 in
set_option maxHeartbeats 4000000 in
theorem ct_X1_needsBy {E : Ev} {d : Nat} {z : Sh} {J : MJ} {I : MI} {o0 : Nat} {o1 : Nat} {x2 : Int32} {x3 : Int32} {rr : Int32} (ho0 : oX1 z o0) (ho1 : oX3 z o1) (h : f_X1_needsBy o0 o1 x2 x3 I = some rr) : Ct E (d + 3) yX1_needsBy cX1_needsBy 6 (some .int) 0 0 [.ref o0, .ref o1, .int x2, .int x3] z J I (some (.int rr)) z J I := by
  unfold f_X1_needsBy at h
  refine Ct.of (own := RX1) (ls := [(0, .ref o0), (1, .ref o1), (2, .int x2), (3, .int x3)]) (by decide) rfl (Nat.le_of_ble_eq_true rfl) rfl ?_
  intro X hr0 hnm hX
  refine g_iconst hX (pc := 0) (v := 0) dX1_needsBy_0 (by decide) ?_
  refine g_istore hX (pc := 1) (ls' := [(0, .ref o0), (1, .ref o1), (2, .int x2), (3, .int x3), (4, .int 0)]) [1, 2, 3, 4, 0] dX1_needsBy_1 (by decide) rfl ?_
  refine g_iconst hX (pc := 3) (v := 0) dX1_needsBy_3 (by decide) ?_
  refine g_istore hX (pc := 4) (ls' := [(0, .ref o0), (1, .ref o1), (2, .int x2), (3, .int x3), (4, .int 0), (5, .int 0)]) [1, 2, 3, 4, 5, 0] dX1_needsBy_4 (by decide) rfl ?_
  obtain ⟨p10, hpl3, h⟩ := bnd h
  have Kl3 : ∀ ql3 : Int32 × Int32, ql3 = p10 → GW E X (QX E X 0 0 (some (.int rr)) z J I) 6 44 [(0, .ref o0), (1, .ref o1), (2, .int x2), (3, .int x3), (4, .int ql3.1), (5, .int ql3.2)] [] z J I 0 0 := by
    intro ql3 hql3
    subst hql3
    refine g_aload_n hX (pc := 44) (i := 0) dX1_needsBy_44 rfl 0 rfl ?_
    refine g_aload_n hX (pc := 45) (i := 1) dX1_needsBy_45 rfl 1 rfl ?_
    refine g_iload hX (pc := 46) dX1_needsBy_46 4 rfl ?_
    refine g_aload_n hX (pc := 48) (i := 0) dX1_needsBy_48 rfl 0 rfl ?_
    refine gf1_7 hX (pc := 49) ho0 fl_X1_34 dX1_needsBy_49 ?_
    refine g_iload_n hX (pc := 52) (i := 3) dX1_needsBy_52 rfl 3 rfl ?_
    obtain ⟨v11, e_v11, h⟩ := bnd h
    refine g_ialoadE hX (pc := 53) (s1_7 ho0).1 (s1_7 ho0).2.1 (s1_7 ho0).2.2.1 e_v11 dX1_needsBy_53 ?_
    obtain ⟨r12, e_r12, h⟩ := bnd h
    refine g_callVi hX (pc := 54) (d := d + 2) hr0 [.ref o1, .int ql3.1, .int v11] (c := 1) (ct_X1_peak (d := d + 0) ho0 ho1 e_r12) ho0.1.1 ho0.1.2 (by decide) rfl co_X1_peak ml_X1_99 im_X1_peak sl_X1_peak ini_X1 nm_X1_peak (by decide) ⟨Nat.le_refl _, Nat.le_refl _⟩ (Nat.le_refl _) (Nat.le_of_ble_eq_true rfl) rfl dX1_needsBy_54 ?_
    refine g_aload_n hX (pc := 57) (i := 0) dX1_needsBy_57 rfl 0 rfl ?_
    refine gf1_6 hX (pc := 58) ho0 fl_X1_31 dX1_needsBy_58 ?_
    refine g_iload_n hX (pc := 61) (i := 2) dX1_needsBy_61 rfl 2 rfl ?_
    refine g_iconst hX (pc := 62) (v := 1) dX1_needsBy_62 (by decide) ?_
    refine g_iload_n hX (pc := 63) (i := 3) dX1_needsBy_63 rfl 3 rfl ?_
    refine g_ishl hX (pc := 64) dX1_needsBy_64 ?_
    refine g_ior hX (pc := 65) dX1_needsBy_65 ?_
    obtain ⟨v13, e_v13, h⟩ := bnd h
    refine g_ialoadE hX (pc := 66) (s1_6 ho0).1 (s1_6 ho0).2.1 (s1_6 ho0).2.2.1 e_v13 dX1_needsBy_66 ?_
    refine g_mmax (d := d + 2) hX (pc := 67) hr0 ml_X1_103 (by exact Nat.le_of_ble_eq_true rfl) ⟨Nat.zero_le _, Nat.zero_le _⟩ dX1_needsBy_67 ?_
    obtain rfl := Option.some.inj h
    exact g_ireturn hX (Nat.le_refl _) (Nat.le_refl _) dX1_needsBy_70
  obtain ⟨kl3, hkl3⟩ := lp_ex hpl3
  clear hpl3 h
  have Ll3 : ∀ k : Nat, ∀ (s1 : Int32) (s2 : Int32), lpN k (b_X1_needsBy_6 o0 x2 I) ((s1, s2)) = some p10 → GW E X (QX E X 0 0 (some (.int rr)) z J I) 6 6 [(0, .ref o0), (1, .ref o1), (2, .int x2), (3, .int x3), (4, .int s1), (5, .int s2)] [] z J I 0 0 := by
    intro k
    induction k with
    | zero => intro s1 s2 h; cases h
    | succ k ihl3 =>
      intro s1 s2 h
      obtain ⟨wl3, h, hwl3⟩ := lpN_s h
      unfold b_X1_needsBy_6 at h
      try dsimp only at h
      refine g_iload hX (pc := 6) dX1_needsBy_6 5 rfl ?_
      refine g_aload_n hX (pc := 8) (i := 0) dX1_needsBy_8 rfl 0 rfl ?_
      refine gf1_1 hX (pc := 9) ho0 fl_X1_15 dX1_needsBy_9 ?_
      refine g_icmp_ge hX (pc := 12) dX1_needsBy_12 (tgt := 44) (by decide) (fun c4 => ?_) (fun c4 => ?_)
      · replace h := ifP c4 h
        refine g_iload_n hX (pc := 15) (i := 2) dX1_needsBy_15 rfl 2 rfl ?_
        refine g_iload hX (pc := 16) dX1_needsBy_16 5 rfl ?_
        obtain ⟨r5, e_r5, h⟩ := bnd h
        refine g_callSNi hX (pc := 18) (d := d + 2) hr0 [.int x2, .int s2] (host := RX4) (ct_X4_hasBit (d := d + 2)  e_r5) co_X4_hasBit (by decide) sta_X4_hasBit ini_X4 nm_X4_hasBit (by decide) ⟨Nat.le_refl _, Nat.le_refl _⟩ (Nat.le_refl _) (Nat.le_of_ble_eq_true rfl) rfl dX1_needsBy_18 ?_
        obtain ⟨p9, hpj7, h⟩ := bnd h
        have Kj7 : ∀ qj7 : Int32, qj7 = p9 → GW E X (QX E X 0 0 (some (.int rr)) z J I) 6 38 [(0, .ref o0), (1, .ref o1), (2, .int x2), (3, .int x3), (4, .int qj7), (5, .int s2)] [] z J I 0 0 := by
          intro qj7 hqj7
          subst hqj7
          refine g_iinc hX (pc := 38) (i := 5) (v := s2 + 1) (ls' := [(0, .ref o0), (1, .ref o1), (2, .int x2), (3, .int x3), (4, .int qj7), (5, .int (s2 + 1))]) 5 [1, 2, 3, 4, 5, 0] dX1_needsBy_38 rfl (by rfl) (by decide) rfl ?_
          refine g_goto hX (pc := 41) (tgt := 6) dX1_needsBy_41 (by decide) ?_
          obtain rfl := Option.some.inj h
          exact ihl3 qj7 (s2 + 1) hwl3
        replace h := hpj7
        clear hpj7
        refine g_if_eq hX (pc := 21) dX1_needsBy_21 (tgt := 38) (by decide) (fun c6 => ?_) (fun c6 => ?_)
        · replace h := ifP c6 h
          exact Kj7 s1 (Option.some.inj h)
        · replace h := ifN c6 h
          refine g_iload hX (pc := 24) dX1_needsBy_24 4 rfl ?_
          refine g_iconst hX (pc := 26) (v := 1) dX1_needsBy_26 (by decide) ?_
          refine g_aload_n hX (pc := 27) (i := 0) dX1_needsBy_27 rfl 0 rfl ?_
          refine gf1_7 hX (pc := 28) ho0 fl_X1_34 dX1_needsBy_28 ?_
          refine g_iload hX (pc := 31) dX1_needsBy_31 5 rfl ?_
          obtain ⟨v8, e_v8, h⟩ := bnd h
          refine g_ialoadE hX (pc := 33) (s1_7 ho0).1 (s1_7 ho0).2.1 (s1_7 ho0).2.2.1 e_v8 dX1_needsBy_33 ?_
          refine g_ishl hX (pc := 34) dX1_needsBy_34 ?_
          refine g_ior hX (pc := 35) dX1_needsBy_35 ?_
          refine g_istore hX (pc := 36) (ls' := [(0, .ref o0), (1, .ref o1), (2, .int x2), (3, .int x3), (4, .int (s1 ||| ((1 : Int32) <<< (v8 &&& 31)))), (5, .int s2)]) [1, 2, 3, 4, 0, 5] dX1_needsBy_36 (by decide) rfl ?_
          exact Kj7 (s1 ||| ((1 : Int32) <<< (v8 &&& 31))) (Option.some.inj h)
      · replace h := ifN c4 h
        obtain rfl := Option.some.inj h
        exact Kl3 ((s1, s2)) hwl3
  exact Ll3 kl3 0 0 hkl3
noncomputable def b_X1_firstWithin_3 (o0 : Nat) (o1 : Nat) (x2 : Int32) (x3 : Int32) (I : MI) (s : Int32) : Option ((Int32) ⊕ ((Int32) ⊕ (Int32))) :=
  if s < (I o0 1) then
    (f_X4_hasBit x2 s).bind fun r4 =>
    if r4 = 0 then
      (f_X1_needsBy o0 o1 x2 s I).bind fun r6 =>
      if x3 < r6 then
        some (.inl (s + 1))
      else
        some (.inr (.inl s))
    else
      some (.inl (s + 1))
  else
    some (.inr (.inr s))
noncomputable def f_X1_firstWithin (o0 : Nat) (o1 : Nat) (x2 : Int32) (x3 : Int32) (I : MI) : Option (Int32) :=
  (lp (b_X1_firstWithin_3 o0 o1 x2 x3 I) 0).bind fun p8 =>
  Sum.elim (fun rr => some rr) (fun q9 =>
    some 0) p8
theorem nm_X1_firstWithin : yX1_firstWithin.cls ≠ "java/lang/invoke/MethodHandle" ∧ yX1_firstWithin.cls ≠ "java/lang/invoke/VarHandle" ∧ (parseMethodDescriptor yX1_firstWithin.desc).map (fun d => d.parameters.length) = some 3 := by decide +kernel
set_option maxRecDepth 100000 in
set_option maxHeartbeats 4000000 in
theorem ct_X1_firstWithin {E : Ev} {d : Nat} {z : Sh} {J : MJ} {I : MI} {o0 : Nat} {o1 : Nat} {x2 : Int32} {x3 : Int32} {rr : Int32} (ho0 : oX1 z o0) (ho1 : oX3 z o1) (h : f_X1_firstWithin o0 o1 x2 x3 I = some rr) : Ct E (d + 4) yX1_firstWithin cX1_firstWithin 5 (some .int) 0 0 [.ref o0, .ref o1, .int x2, .int x3] z J I (some (.int rr)) z J I := by
  unfold f_X1_firstWithin at h
  refine Ct.of (own := RX1) (ls := [(0, .ref o0), (1, .ref o1), (2, .int x2), (3, .int x3)]) (by decide) rfl (Nat.le_of_ble_eq_true rfl) rfl ?_
  intro X hr0 hnm hX
  refine g_iconst hX (pc := 0) (v := 0) dX1_firstWithin_0 (by decide) ?_
  refine g_istore hX (pc := 1) (ls' := [(0, .ref o0), (1, .ref o1), (2, .int x2), (3, .int x3), (4, .int 0)]) [1, 2, 3, 4, 0] dX1_firstWithin_1 (by decide) rfl ?_
  obtain ⟨p8, hpl2, h⟩ := bnd h
  have KRl2 : ∀ rl2 : Int32, Sum.inl rl2 = p8 → some rl2 = some rr := by intro rl2 hrl2; subst hrl2; exact h
  have Kl2 : ∀ q9 : Int32, Sum.inr q9 = p8 → GW E X (QX E X 0 0 (some (.int rr)) z J I) 5 42 [(0, .ref o0), (1, .ref o1), (2, .int x2), (3, .int x3), (4, .int q9)] [] z J I 0 0 := by
    intro q9 hql2
    subst hql2
    refine g_iconst hX (pc := 42) (v := 0) dX1_firstWithin_42 (by decide) ?_
    obtain rfl := Option.some.inj h
    exact g_ireturn hX (Nat.le_refl _) (Nat.le_refl _) dX1_firstWithin_43
  obtain ⟨kl2, hkl2⟩ := lp_ex hpl2
  clear hpl2 h
  have Ll2 : ∀ k : Nat, ∀ (s1 : Int32), lpN k (b_X1_firstWithin_3 o0 o1 x2 x3 I) s1 = some p8 → GW E X (QX E X 0 0 (some (.int rr)) z J I) 5 3 [(0, .ref o0), (1, .ref o1), (2, .int x2), (3, .int x3), (4, .int s1)] [] z J I 0 0 := by
    intro k
    induction k with
    | zero => intro s1 h; cases h
    | succ k ihl2 =>
      intro s1 h
      obtain ⟨wl2, h, hwl2⟩ := lpN_s h
      unfold b_X1_firstWithin_3 at h
      try dsimp only at h
      refine g_iload hX (pc := 3) dX1_firstWithin_3 4 rfl ?_
      refine g_aload_n hX (pc := 5) (i := 0) dX1_firstWithin_5 rfl 0 rfl ?_
      refine gf1_1 hX (pc := 6) ho0 fl_X1_15 dX1_firstWithin_6 ?_
      refine g_icmp_ge hX (pc := 9) dX1_firstWithin_9 (tgt := 42) (by decide) (fun c3 => ?_) (fun c3 => ?_)
      · replace h := ifP c3 h
        refine g_iload_n hX (pc := 12) (i := 2) dX1_firstWithin_12 rfl 2 rfl ?_
        refine g_iload hX (pc := 13) dX1_firstWithin_13 4 rfl ?_
        obtain ⟨r4, e_r4, h⟩ := bnd h
        refine g_callSNi hX (pc := 15) (d := d + 3) hr0 [.int x2, .int s1] (host := RX4) (ct_X4_hasBit (d := d + 3)  e_r4) co_X4_hasBit (by decide) sta_X4_hasBit ini_X4 nm_X4_hasBit (by decide) ⟨Nat.le_refl _, Nat.le_refl _⟩ (Nat.le_refl _) (Nat.le_of_ble_eq_true rfl) rfl dX1_firstWithin_15 ?_
        refine g_if_ne hX (pc := 18) dX1_firstWithin_18 (tgt := 36) (by decide) (fun c5 => ?_) (fun c5 => ?_)
        · replace h := ifP c5 h
          refine g_aload_n hX (pc := 21) (i := 0) dX1_firstWithin_21 rfl 0 rfl ?_
          refine g_aload_n hX (pc := 22) (i := 1) dX1_firstWithin_22 rfl 1 rfl ?_
          refine g_iload_n hX (pc := 23) (i := 2) dX1_firstWithin_23 rfl 2 rfl ?_
          refine g_iload hX (pc := 24) dX1_firstWithin_24 4 rfl ?_
          obtain ⟨r6, e_r6, h⟩ := bnd h
          refine g_callVi hX (pc := 26) (d := d + 3) hr0 [.ref o1, .int x2, .int s1] (c := 1) (ct_X1_needsBy (d := d + 0) ho0 ho1 e_r6) ho0.1.1 ho0.1.2 (by decide) rfl co_X1_needsBy ml_X1_113 im_X1_needsBy sl_X1_needsBy ini_X1 nm_X1_needsBy (by decide) ⟨Nat.le_refl _, Nat.le_refl _⟩ (Nat.le_refl _) (Nat.le_of_ble_eq_true rfl) rfl dX1_firstWithin_26 ?_
          refine g_iload_n hX (pc := 29) (i := 3) dX1_firstWithin_29 rfl 3 rfl ?_
          refine g_icmp_gt hX (pc := 30) dX1_firstWithin_30 (tgt := 36) (by decide) (fun c7 => ?_) (fun c7 => ?_)
          · replace h := ifP c7 h
            refine g_iinc hX (pc := 36) (i := 4) (v := s1 + 1) (ls' := [(0, .ref o0), (1, .ref o1), (2, .int x2), (3, .int x3), (4, .int (s1 + 1))]) 4 [1, 2, 3, 4, 0] dX1_firstWithin_36 rfl (by rfl) (by decide) rfl ?_
            refine g_goto hX (pc := 39) (tgt := 3) dX1_firstWithin_39 (by decide) ?_
            obtain rfl := Option.some.inj h
            exact ihl2 (s1 + 1) hwl2
          · replace h := ifN c7 h
            refine g_iload hX (pc := 33) dX1_firstWithin_33 4 rfl ?_
            obtain rfl := Option.some.inj h
            replace h := KRl2 _ hwl2
            obtain rfl := Option.some.inj h
            exact g_ireturn hX (Nat.le_refl _) (Nat.le_refl _) dX1_firstWithin_35
        · replace h := ifN c5 h
          refine g_iinc hX (pc := 36) (i := 4) (v := s1 + 1) (ls' := [(0, .ref o0), (1, .ref o1), (2, .int x2), (3, .int x3), (4, .int (s1 + 1))]) 4 [1, 2, 3, 4, 0] dX1_firstWithin_36 rfl (by rfl) (by decide) rfl ?_
          refine g_goto hX (pc := 39) (tgt := 3) dX1_firstWithin_39 (by decide) ?_
          obtain rfl := Option.some.inj h
          exact ihl2 (s1 + 1) hwl2
      · replace h := ifN c3 h
        obtain rfl := Option.some.inj h
        exact Kl2 s1 hwl2
  exact Ll2 kl2 0 hkl2
noncomputable def f_X2_init (o0 : Nat) (z : Sh) (I : MI) : Option (Sh × MI) :=
  (nm (zNa z 6 0)).bind fun z2 =>
  (nm (clr 0 I (zs z))).bind fun I1 =>
  (nm (zSt z2 o0 0 (some (zs z)))).bind fun z4 =>
  (wf I1 o0 1 0).bind fun I6 =>
  (wf I6 o0 2 0).bind fun I7 =>
  (wf I7 o0 3 0).bind fun I8 =>
  (wf I8 o0 4 0).bind fun I9 =>
  (wf I9 o0 5 0).bind fun I10 =>
  (wf I10 o0 6 0).bind fun I11 =>
  some ((z4, I11))
theorem nm_X2_init : yX2_init.cls ≠ "java/lang/invoke/MethodHandle" ∧ yX2_init.cls ≠ "java/lang/invoke/VarHandle" ∧ (parseMethodDescriptor yX2_init.desc).map (fun d => d.parameters.length) = some 0 := by decide +kernel
set_option maxRecDepth 100000 in
set_option maxHeartbeats 4000000 in
theorem ct_X2_init {E : Ev} {d : Nat} {z : Sh} {J : MJ} {I : MI} {o0 : Nat} {zz : Sh} {Iz : MI} (ho0 : raw z o0 2) (h : f_X2_init o0 z I = some ((zz, Iz))) : Ct E (d + 1) yX2_init cX2_init 1 none 1 0 [.ref o0] z J I none zz J Iz := by
  unfold f_X2_init at h
  refine Ct.of (own := RX2) (ls := [(0, .ref o0)]) (by decide) rfl (Nat.le_of_ble_eq_true rfl) rfl ?_
  intro X hr0 hnm hX
  refine g_aload_n hX (pc := 0) (i := 0) dX2_init_0 rfl 0 rfl ?_
  refine g_objInit hX (pc := 1) (d := d + 0) hr0 ml_X2_3 im_java_lang_Object__init__3 co_objInit (by exact Nat.le_of_ble_eq_true rfl) dX2_init_1 ?_
  refine g_aload_n hX (pc := 4) (i := 0) dX2_init_4 rfl 0 rfl ?_
  refine g_iconst hX (pc := 5) (v := 0) dX2_init_5 (by decide) ?_
  refine g_newA6 hX (pc := 6) hr0 (N := 0) (by decide) (by decide) (by decide) (by decide) dX2_init_6 ?_
  obtain ⟨z2, e_z2, h⟩ := bnd h
  refine g_nmz e_z2 ?_
  have hu3 := raw.nm e_z2 (ho0.na 6 0)
  obtain ⟨I1, e_I1, h⟩ := bnd h
  refine g_nmM e_I1 ?_
  refine pr2_0 hX (pc := 8) hu3 fl_X2_9 dX2_init_8 ?_
  obtain ⟨z4, e_z4, h⟩ := bnd h
  refine g_nmz e_z4 ?_
  have hu5 := raw.nm e_z4 (hu3.st o0 0 (some (zs z)))
  refine g_aload_n hX (pc := 11) (i := 0) dX2_init_11 rfl 0 rfl ?_
  refine g_iconst hX (pc := 12) (v := 0) dX2_init_12 (by decide) ?_
  obtain ⟨I6, e_I6, h⟩ := bnd h
  refine pi2_1 hX (pc := 13) hu5 fl_X2_15 dX2_init_13 e_I6 ?_
  refine g_aload_n hX (pc := 16) (i := 0) dX2_init_16 rfl 0 rfl ?_
  refine g_iconst hX (pc := 17) (v := 0) dX2_init_17 (by decide) ?_
  obtain ⟨I7, e_I7, h⟩ := bnd h
  refine pi2_2 hX (pc := 18) hu5 fl_X2_19 dX2_init_18 e_I7 ?_
  refine g_aload_n hX (pc := 21) (i := 0) dX2_init_21 rfl 0 rfl ?_
  refine g_iconst hX (pc := 22) (v := 0) dX2_init_22 (by decide) ?_
  obtain ⟨I8, e_I8, h⟩ := bnd h
  refine pi2_3 hX (pc := 23) hu5 fl_X2_22 dX2_init_23 e_I8 ?_
  refine g_aload_n hX (pc := 26) (i := 0) dX2_init_26 rfl 0 rfl ?_
  refine g_iconst hX (pc := 27) (v := 0) dX2_init_27 (by decide) ?_
  obtain ⟨I9, e_I9, h⟩ := bnd h
  refine pi2_4 hX (pc := 28) hu5 fl_X2_25 dX2_init_28 e_I9 ?_
  refine g_aload_n hX (pc := 31) (i := 0) dX2_init_31 rfl 0 rfl ?_
  refine g_iconst hX (pc := 32) (v := 0) dX2_init_32 (by decide) ?_
  obtain ⟨I10, e_I10, h⟩ := bnd h
  refine pi2_5 hX (pc := 33) hu5 fl_X2_28 dX2_init_33 e_I10 ?_
  refine g_aload_n hX (pc := 36) (i := 0) dX2_init_36 rfl 0 rfl ?_
  refine g_iconst hX (pc := 37) (v := 0) dX2_init_37 (by decide) ?_
  obtain ⟨I11, e_I11, h⟩ := bnd h
  refine pi2_6 hX (pc := 38) hu5 fl_X2_31 dX2_init_38 e_I11 ?_
  replace h := Option.some.inj h
  obtain ⟨rfl, rfl⟩ := Prod.mk.inj h
  exact g_return hX (by decide) (by decide) dX2_init_41
noncomputable def f_X2_isName (o0 b0 : Nat) (I : MI) : Option (Int32) :=
  (if (I o0 3) = 1 then
    if (I o0 5) = 8892595 then
      some 0
    else
      if (I o0 5) = 755397 then
        some 0
      else
        if (I o0 5) = 315565 then
          some 0
        else
          if (I o0 5) = 16322738 then
            some 0
          else
            some 1
  else
    some 0).bind fun (p7 : Int32) =>
  (gb p7).bind fun b8 =>
  some p7
theorem nm_X2_isName : yX2_isName.cls ≠ "java/lang/invoke/MethodHandle" ∧ yX2_isName.cls ≠ "java/lang/invoke/VarHandle" ∧ (parseMethodDescriptor yX2_isName.desc).map (fun d => d.parameters.length) = some 0 := by decide +kernel
set_option maxRecDepth 100000 in
set_option maxHeartbeats 4000000 in
theorem ct_X2_isName {E : Ev} {d : Nat} {z : Sh} {J : MJ} {I : MI} {o0 b0 : Nat} {rr : Int32} (ho0 : oX2 z o0 b0) (h : f_X2_isName o0 b0 I = some rr) : Ct E (d + 0) yX2_isName cX2_isName 1 (some .boolean) 0 0 [.ref o0] z J I (some (.int rr)) z J I := by
  unfold f_X2_isName at h
  refine Ct.of (own := RX2) (ls := [(0, .ref o0)]) (by decide) rfl (Nat.le_of_ble_eq_true rfl) rfl ?_
  intro X hr0 hnm hX
  refine g_aload_n hX (pc := 0) (i := 0) dX2_isName_0 rfl 0 rfl ?_
  refine gf2_3 hX (pc := 1) ho0 fl_X2_22 dX2_isName_1 ?_
  refine g_iconst hX (pc := 4) (v := 1) dX2_isName_4 (by decide) ?_
  obtain ⟨p7, hpj2, h⟩ := bnd h
  have Kj2 : ∀ qj2 : Int32, qj2 = p7 → GW E X (QX E X 0 0 (some (.int rr)) z J I) 1 49 [(0, .ref o0)] [.int qj2] z J I 0 0 := by
    intro qj2 hqj2
    subst hqj2
    obtain ⟨b8, e_b8, h⟩ := bnd h
    obtain rfl := Option.some.inj h
    exact g_zreturn hX (gb_some e_b8).1 (Nat.le_refl _) (Nat.le_refl _) dX2_isName_49
  replace h := hpj2
  clear hpj2
  refine g_icmp_ne hX (pc := 5) dX2_isName_5 (tgt := 48) (by decide) (fun c1 => ?_) (fun c1 => ?_)
  · replace h := ifP c1 h
    refine g_aload_n hX (pc := 8) (i := 0) dX2_isName_8 rfl 0 rfl ?_
    refine gf2_5 hX (pc := 9) ho0 fl_X2_28 dX2_isName_9 ?_
    refine g_ldc hX (pc := 12) cst_X2_143 dX2_isName_12 ?_
    refine g_icmp_eq hX (pc := 14) dX2_isName_14 (tgt := 48) (by decide) (fun c3 => ?_) (fun c3 => ?_)
    · replace h := ifP c3 h
      refine g_iconst hX (pc := 48) (v := 0) dX2_isName_48 (by decide) ?_
      exact Kj2 0 (Option.some.inj h)
    · replace h := ifN c3 h
      refine g_aload_n hX (pc := 17) (i := 0) dX2_isName_17 rfl 0 rfl ?_
      refine gf2_5 hX (pc := 18) ho0 fl_X2_28 dX2_isName_18 ?_
      refine g_ldc hX (pc := 21) cst_X2_144 dX2_isName_21 ?_
      refine g_icmp_eq hX (pc := 23) dX2_isName_23 (tgt := 48) (by decide) (fun c4 => ?_) (fun c4 => ?_)
      · replace h := ifP c4 h
        refine g_iconst hX (pc := 48) (v := 0) dX2_isName_48 (by decide) ?_
        exact Kj2 0 (Option.some.inj h)
      · replace h := ifN c4 h
        refine g_aload_n hX (pc := 26) (i := 0) dX2_isName_26 rfl 0 rfl ?_
        refine gf2_5 hX (pc := 27) ho0 fl_X2_28 dX2_isName_27 ?_
        refine g_ldc hX (pc := 30) cst_X2_145 dX2_isName_30 ?_
        refine g_icmp_eq hX (pc := 32) dX2_isName_32 (tgt := 48) (by decide) (fun c5 => ?_) (fun c5 => ?_)
        · replace h := ifP c5 h
          refine g_iconst hX (pc := 48) (v := 0) dX2_isName_48 (by decide) ?_
          exact Kj2 0 (Option.some.inj h)
        · replace h := ifN c5 h
          refine g_aload_n hX (pc := 35) (i := 0) dX2_isName_35 rfl 0 rfl ?_
          refine gf2_5 hX (pc := 36) ho0 fl_X2_28 dX2_isName_36 ?_
          refine g_ldc hX (pc := 39) cst_X2_146 dX2_isName_39 ?_
          refine g_icmp_eq hX (pc := 41) dX2_isName_41 (tgt := 48) (by decide) (fun c6 => ?_) (fun c6 => ?_)
          · replace h := ifP c6 h
            refine g_iconst hX (pc := 48) (v := 0) dX2_isName_48 (by decide) ?_
            exact Kj2 0 (Option.some.inj h)
          · replace h := ifN c6 h
            refine g_iconst hX (pc := 44) (v := 1) dX2_isName_44 (by decide) ?_
            refine g_goto hX (pc := 45) (tgt := 49) dX2_isName_45 (by decide) ?_
            exact Kj2 1 (Option.some.inj h)
  · replace h := ifN c1 h
    refine g_iconst hX (pc := 48) (v := 0) dX2_isName_48 (by decide) ?_
    exact Kj2 0 (Option.some.inj h)
noncomputable def f_X2_fail (o0 b0 : Nat) (x1 : Int32) (I : MI) : Option (MI) :=
  (if (I o0 6) = 0 then
    (wf I o0 6 ((8 * (I o0 4)) + x1)).bind fun I3 =>
    some I3
  else
    some I).bind fun (p4 : MI) =>
  some p4
theorem nm_X2_fail : yX2_fail.cls ≠ "java/lang/invoke/MethodHandle" ∧ yX2_fail.cls ≠ "java/lang/invoke/VarHandle" ∧ (parseMethodDescriptor yX2_fail.desc).map (fun d => d.parameters.length) = some 1 := by decide +kernel
set_option maxRecDepth 100000 in
set_option maxHeartbeats 4000000 in
theorem ct_X2_fail {E : Ev} {d : Nat} {z : Sh} {J : MJ} {I : MI} {o0 b0 : Nat} {x1 : Int32} {Iz : MI} (ho0 : oX2 z o0 b0) (h : f_X2_fail o0 b0 x1 I = some Iz) : Ct E (d + 0) yX2_fail cX2_fail 2 none 0 0 [.ref o0, .int x1] z J I none z J Iz := by
  unfold f_X2_fail at h
  refine Ct.of (own := RX2) (ls := [(0, .ref o0), (1, .int x1)]) (by decide) rfl (Nat.le_of_ble_eq_true rfl) rfl ?_
  intro X hr0 hnm hX
  refine g_aload_n hX (pc := 0) (i := 0) dX2_fail_0 rfl 0 rfl ?_
  refine gf2_6 hX (pc := 1) ho0 fl_X2_31 dX2_fail_1 ?_
  obtain ⟨p4, hpj2, h⟩ := bnd h
  have Kj2 : ∀ qj2 : MI, qj2 = p4 → GW E X (QX E X 0 0 none z J Iz) 2 20 [(0, .ref o0), (1, .int x1)] [] z J qj2 0 0 := by
    intro qj2 hqj2
    subst hqj2
    obtain rfl := Option.some.inj h
    exact g_return hX (Nat.le_refl _) (Nat.le_refl _) dX2_fail_20
  replace h := hpj2
  clear hpj2
  refine g_if_ne hX (pc := 4) dX2_fail_4 (tgt := 20) (by decide) (fun c1 => ?_) (fun c1 => ?_)
  · replace h := ifP c1 h
    refine g_aload_n hX (pc := 7) (i := 0) dX2_fail_7 rfl 0 rfl ?_
    refine g_bipush hX (pc := 8) (v := 8) dX2_fail_8 (by decide) ?_
    refine g_aload_n hX (pc := 10) (i := 0) dX2_fail_10 rfl 0 rfl ?_
    refine gf2_4 hX (pc := 11) ho0 fl_X2_25 dX2_fail_11 ?_
    refine g_imul hX (pc := 14) dX2_fail_14 ?_
    refine g_iload_n hX (pc := 15) (i := 1) dX2_fail_15 rfl 1 rfl ?_
    refine g_iadd hX (pc := 16) dX2_fail_16 ?_
    obtain ⟨I3, e_I3, h⟩ := bnd h
    refine pf2_6 hX (pc := 17) ho0 fl_X2_31 dX2_fail_17 e_I3 ?_
    exact Kj2 I3 (Option.some.inj h)
  · replace h := ifN c1 h
    exact Kj2 I (Option.some.inj h)
noncomputable def b_X2_readRun_6 (o0 : Nat) (b0 : Nat) (x1 : Int32) (x2 : Int32) (x3 : Int32) (s : Int32 × MI) : Option ((Int32 × MI) ⊕ (Int32 × MI)) :=
  if s.1 < (s.2 o0 1) then
    (rd 600 (s.2 b0) s.1).bind fun v5 =>
    if v5 < x1 then
      some (.inr ((s.1, s.2)))
    else
      (rd 600 (s.2 b0) s.1).bind fun v7 =>
      if x2 < v7 then
        some (.inr ((s.1, s.2)))
      else
        (if (s.1 - (s.2 o0 2)) < x3 then
          (if (s.2 o0 3) = 1 then
            (rd 600 (s.2 b0) s.1).bind fun v13 =>
            some (((((s.2 o0 5) * 32) + v13) - 97) + 1)
          else
            (rd 600 (s.2 b0) s.1).bind fun v14 =>
            some ((((s.2 o0 5) * 10) + v14) - 48)).bind fun (p15 : Int32) =>
          (wf s.2 o0 5 p15).bind fun I16 =>
          some I16
        else
          some s.2).bind fun (p17 : MI) =>
        some (.inl ((s.1 + 1, p17)))
  else
    some (.inr ((s.1, s.2)))
noncomputable def f_X2_readRun (o0 b0 : Nat) (x1 : Int32) (x2 : Int32) (x3 : Int32) (I : MI) : Option (MI) :=
  (lp (b_X2_readRun_6 o0 b0 x1 x2 x3) ((I o0 2, I))).bind fun p18 =>
  (if x3 < (p18.1 - (p18.2 o0 2)) then
    (wf p18.2 o0 3 4).bind fun I21 =>
    some I21
  else
    some p18.2).bind fun (p22 : MI) =>
  (wf p22 o0 2 p18.1).bind fun I23 =>
  some I23
theorem nm_X2_readRun : yX2_readRun.cls ≠ "java/lang/invoke/MethodHandle" ∧ yX2_readRun.cls ≠ "java/lang/invoke/VarHandle" ∧ (parseMethodDescriptor yX2_readRun.desc).map (fun d => d.parameters.length) = some 3 := by decide +kernel
set_option maxRecDepth 100000 in
set_option maxHeartbeats 4000000 in
theorem ct_X2_readRun {E : Ev} {d : Nat} {z : Sh} {J : MJ} {I : MI} {o0 b0 : Nat} {x1 : Int32} {x2 : Int32} {x3 : Int32} {Iz : MI} (ho0 : oX2 z o0 b0) (h : f_X2_readRun o0 b0 x1 x2 x3 I = some Iz) : Ct E (d + 0) yX2_readRun cX2_readRun 5 none 0 0 [.ref o0, .int x1, .int x2, .int x3] z J I none z J Iz := by
  unfold f_X2_readRun at h
  refine Ct.of (own := RX2) (ls := [(0, .ref o0), (1, .int x1), (2, .int x2), (3, .int x3)]) (by decide) rfl (Nat.le_of_ble_eq_true rfl) rfl ?_
  intro X hr0 hnm hX
  refine g_aload_n hX (pc := 0) (i := 0) dX2_readRun_0 rfl 0 rfl ?_
  refine gf2_2 hX (pc := 1) ho0 fl_X2_19 dX2_readRun_1 ?_
  refine g_istore hX (pc := 4) (ls' := [(0, .ref o0), (1, .int x1), (2, .int x2), (3, .int x3), (4, .int (I o0 2))]) [1, 2, 3, 4, 0] dX2_readRun_4 (by decide) rfl ?_
  obtain ⟨p18, hpl3, h⟩ := bnd h
  have Kl3 : ∀ ql3 : Int32 × MI, ql3 = p18 → GW E X (QX E X 0 0 none z J Iz) 5 107 [(0, .ref o0), (1, .int x1), (2, .int x2), (3, .int x3), (4, .int ql3.1)] [] z J ql3.2 0 0 := by
    intro ql3 hql3
    subst hql3
    refine g_iload hX (pc := 107) dX2_readRun_107 4 rfl ?_
    refine g_aload_n hX (pc := 109) (i := 0) dX2_readRun_109 rfl 0 rfl ?_
    refine gf2_2 hX (pc := 110) ho0 fl_X2_19 dX2_readRun_110 ?_
    refine g_isub hX (pc := 113) dX2_readRun_113 ?_
    refine g_iload_n hX (pc := 114) (i := 3) dX2_readRun_114 rfl 3 rfl ?_
    obtain ⟨p22, hpj20, h⟩ := bnd h
    have Kj20 : ∀ qj20 : MI, qj20 = p22 → GW E X (QX E X 0 0 none z J Iz) 5 123 [(0, .ref o0), (1, .int x1), (2, .int x2), (3, .int x3), (4, .int ql3.1)] [] z J qj20 0 0 := by
      intro qj20 hqj20
      subst hqj20
      refine g_aload_n hX (pc := 123) (i := 0) dX2_readRun_123 rfl 0 rfl ?_
      refine g_iload hX (pc := 124) dX2_readRun_124 4 rfl ?_
      obtain ⟨I23, e_I23, h⟩ := bnd h
      refine pf2_2 hX (pc := 126) ho0 fl_X2_19 dX2_readRun_126 e_I23 ?_
      obtain rfl := Option.some.inj h
      exact g_return hX (Nat.le_refl _) (Nat.le_refl _) dX2_readRun_129
    replace h := hpj20
    clear hpj20
    refine g_icmp_le hX (pc := 115) dX2_readRun_115 (tgt := 123) (by decide) (fun c19 => ?_) (fun c19 => ?_)
    · replace h := ifP c19 h
      refine g_aload_n hX (pc := 118) (i := 0) dX2_readRun_118 rfl 0 rfl ?_
      refine g_iconst hX (pc := 119) (v := 4) dX2_readRun_119 (by decide) ?_
      obtain ⟨I21, e_I21, h⟩ := bnd h
      refine pf2_3 hX (pc := 120) ho0 fl_X2_22 dX2_readRun_120 e_I21 ?_
      exact Kj20 I21 (Option.some.inj h)
    · replace h := ifN c19 h
      exact Kj20 ql3.2 (Option.some.inj h)
  obtain ⟨kl3, hkl3⟩ := lp_ex hpl3
  clear hpl3 h
  have Ll3 : ∀ k : Nat, ∀ (s1 : Int32) (I2 : MI), lpN k (b_X2_readRun_6 o0 b0 x1 x2 x3) ((s1, I2)) = some p18 → GW E X (QX E X 0 0 none z J Iz) 5 6 [(0, .ref o0), (1, .int x1), (2, .int x2), (3, .int x3), (4, .int s1)] [] z J I2 0 0 := by
    intro k
    induction k with
    | zero => intro s1 I2 h; cases h
    | succ k ihl3 =>
      intro s1 I2 h
      obtain ⟨wl3, h, hwl3⟩ := lpN_s h
      unfold b_X2_readRun_6 at h
      try dsimp only at h
      refine g_iload hX (pc := 6) dX2_readRun_6 4 rfl ?_
      refine g_aload_n hX (pc := 8) (i := 0) dX2_readRun_8 rfl 0 rfl ?_
      refine gf2_1 hX (pc := 9) ho0 fl_X2_15 dX2_readRun_9 ?_
      refine g_icmp_ge hX (pc := 12) dX2_readRun_12 (tgt := 107) (by decide) (fun c4 => ?_) (fun c4 => ?_)
      · replace h := ifP c4 h
        refine g_aload_n hX (pc := 15) (i := 0) dX2_readRun_15 rfl 0 rfl ?_
        refine gf2_0 hX (pc := 16) ho0 fl_X2_9 dX2_readRun_16 ?_
        refine g_iload hX (pc := 19) dX2_readRun_19 4 rfl ?_
        obtain ⟨v5, e_v5, h⟩ := bnd h
        refine g_baloadE hX (pc := 21) ho0.2.2.1 ho0.2.2.2.1 ho0.2.2.2.2 e_v5 dX2_readRun_21 ?_
        refine g_iload_n hX (pc := 22) (i := 1) dX2_readRun_22 rfl 1 rfl ?_
        refine g_icmp_lt hX (pc := 23) dX2_readRun_23 (tgt := 107) (by decide) (fun c6 => ?_) (fun c6 => ?_)
        · replace h := ifP c6 h
          obtain rfl := Option.some.inj h
          exact Kl3 ((s1, I2)) hwl3
        · replace h := ifN c6 h
          refine g_aload_n hX (pc := 26) (i := 0) dX2_readRun_26 rfl 0 rfl ?_
          refine gf2_0 hX (pc := 27) ho0 fl_X2_9 dX2_readRun_27 ?_
          refine g_iload hX (pc := 30) dX2_readRun_30 4 rfl ?_
          obtain ⟨v7, e_v7, h⟩ := bnd h
          refine g_baloadE hX (pc := 32) ho0.2.2.1 ho0.2.2.2.1 ho0.2.2.2.2 e_v7 dX2_readRun_32 ?_
          refine g_iload_n hX (pc := 33) (i := 2) dX2_readRun_33 rfl 2 rfl ?_
          refine g_icmp_gt hX (pc := 34) dX2_readRun_34 (tgt := 107) (by decide) (fun c8 => ?_) (fun c8 => ?_)
          · replace h := ifP c8 h
            obtain rfl := Option.some.inj h
            exact Kl3 ((s1, I2)) hwl3
          · replace h := ifN c8 h
            refine g_iload hX (pc := 37) dX2_readRun_37 4 rfl ?_
            refine g_aload_n hX (pc := 39) (i := 0) dX2_readRun_39 rfl 0 rfl ?_
            refine gf2_2 hX (pc := 40) ho0 fl_X2_19 dX2_readRun_40 ?_
            refine g_isub hX (pc := 43) dX2_readRun_43 ?_
            refine g_iload_n hX (pc := 44) (i := 3) dX2_readRun_44 rfl 3 rfl ?_
            obtain ⟨p17, hpj10, h⟩ := bnd h
            have Kj10 : ∀ qj10 : MI, qj10 = p17 → GW E X (QX E X 0 0 none z J Iz) 5 101 [(0, .ref o0), (1, .int x1), (2, .int x2), (3, .int x3), (4, .int s1)] [] z J qj10 0 0 := by
              intro qj10 hqj10
              subst hqj10
              refine g_iinc hX (pc := 101) (i := 4) (v := s1 + 1) (ls' := [(0, .ref o0), (1, .int x1), (2, .int x2), (3, .int x3), (4, .int (s1 + 1))]) 4 [1, 2, 3, 4, 0] dX2_readRun_101 rfl (by rfl) (by decide) rfl ?_
              refine g_goto hX (pc := 104) (tgt := 6) dX2_readRun_104 (by decide) ?_
              obtain rfl := Option.some.inj h
              exact ihl3 (s1 + 1) qj10 hwl3
            replace h := hpj10
            clear hpj10
            refine g_icmp_ge hX (pc := 45) dX2_readRun_45 (tgt := 101) (by decide) (fun c9 => ?_) (fun c9 => ?_)
            · replace h := ifP c9 h
              refine g_aload_n hX (pc := 48) (i := 0) dX2_readRun_48 rfl 0 rfl ?_
              refine g_aload_n hX (pc := 49) (i := 0) dX2_readRun_49 rfl 0 rfl ?_
              refine gf2_3 hX (pc := 50) ho0 fl_X2_22 dX2_readRun_50 ?_
              refine g_iconst hX (pc := 53) (v := 1) dX2_readRun_53 (by decide) ?_
              obtain ⟨p15, hpj12, h⟩ := bnd h
              have Kj12 : ∀ qj12 : Int32, qj12 = p15 → GW E X (QX E X 0 0 none z J Iz) 5 98 [(0, .ref o0), (1, .int x1), (2, .int x2), (3, .int x3), (4, .int s1)] [.int qj12, .ref o0] z J I2 0 0 := by
                intro qj12 hqj12
                subst hqj12
                obtain ⟨I16, e_I16, h⟩ := bnd h
                refine pf2_5 hX (pc := 98) ho0 fl_X2_28 dX2_readRun_98 e_I16 ?_
                exact Kj10 I16 (Option.some.inj h)
              replace h := hpj12
              clear hpj12
              refine g_icmp_ne hX (pc := 54) dX2_readRun_54 (tgt := 80) (by decide) (fun c11 => ?_) (fun c11 => ?_)
              · replace h := ifP c11 h
                refine g_aload_n hX (pc := 57) (i := 0) dX2_readRun_57 rfl 0 rfl ?_
                refine gf2_5 hX (pc := 58) ho0 fl_X2_28 dX2_readRun_58 ?_
                refine g_bipush hX (pc := 61) (v := 32) dX2_readRun_61 (by decide) ?_
                refine g_imul hX (pc := 63) dX2_readRun_63 ?_
                refine g_aload_n hX (pc := 64) (i := 0) dX2_readRun_64 rfl 0 rfl ?_
                refine gf2_0 hX (pc := 65) ho0 fl_X2_9 dX2_readRun_65 ?_
                refine g_iload hX (pc := 68) dX2_readRun_68 4 rfl ?_
                obtain ⟨v13, e_v13, h⟩ := bnd h
                refine g_baloadE hX (pc := 70) ho0.2.2.1 ho0.2.2.2.1 ho0.2.2.2.2 e_v13 dX2_readRun_70 ?_
                refine g_iadd hX (pc := 71) dX2_readRun_71 ?_
                refine g_bipush hX (pc := 72) (v := 97) dX2_readRun_72 (by decide) ?_
                refine g_isub hX (pc := 74) dX2_readRun_74 ?_
                refine g_iconst hX (pc := 75) (v := 1) dX2_readRun_75 (by decide) ?_
                refine g_iadd hX (pc := 76) dX2_readRun_76 ?_
                refine g_goto hX (pc := 77) (tgt := 98) dX2_readRun_77 (by decide) ?_
                exact Kj12 (((((I2 o0 5) * 32) + v13) - 97) + 1) (Option.some.inj h)
              · replace h := ifN c11 h
                refine g_aload_n hX (pc := 80) (i := 0) dX2_readRun_80 rfl 0 rfl ?_
                refine gf2_5 hX (pc := 81) ho0 fl_X2_28 dX2_readRun_81 ?_
                refine g_bipush hX (pc := 84) (v := 10) dX2_readRun_84 (by decide) ?_
                refine g_imul hX (pc := 86) dX2_readRun_86 ?_
                refine g_aload_n hX (pc := 87) (i := 0) dX2_readRun_87 rfl 0 rfl ?_
                refine gf2_0 hX (pc := 88) ho0 fl_X2_9 dX2_readRun_88 ?_
                refine g_iload hX (pc := 91) dX2_readRun_91 4 rfl ?_
                obtain ⟨v14, e_v14, h⟩ := bnd h
                refine g_baloadE hX (pc := 93) ho0.2.2.1 ho0.2.2.2.1 ho0.2.2.2.2 e_v14 dX2_readRun_93 ?_
                refine g_iadd hX (pc := 94) dX2_readRun_94 ?_
                refine g_bipush hX (pc := 95) (v := 48) dX2_readRun_95 (by decide) ?_
                refine g_isub hX (pc := 97) dX2_readRun_97 ?_
                exact Kj12 ((((I2 o0 5) * 10) + v14) - 48) (Option.some.inj h)
            · replace h := ifN c9 h
              exact Kj10 I2 (Option.some.inj h)
      · replace h := ifN c4 h
        obtain rfl := Option.some.inj h
        exact Kl3 ((s1, I2)) hwl3
  exact Ll3 kl3 (I o0 2) I hkl3
noncomputable def f_X2_kindOf (x0 : Int32)  : Option (Int32) :=
  if x0 < 97 then
    if x0 < 48 then
      if x0 = 59 then
        some 3
      else
        (if x0 = 32 then
          some 5
        else
          if x0 = 10 then
            some 5
          else
            some 4).bind fun (p7 : Int32) =>
        some p7
    else
      if 57 < x0 then
        if x0 = 59 then
          some 3
        else
          (if x0 = 32 then
            some 5
          else
            if x0 = 10 then
              some 5
            else
              some 4).bind fun (p13 : Int32) =>
          some p13
      else
        some 2
  else
    if 122 < x0 then
      if x0 < 48 then
        if x0 = 59 then
          some 3
        else
          (if x0 = 32 then
            some 5
          else
            if x0 = 10 then
              some 5
            else
              some 4).bind fun (p20 : Int32) =>
          some p20
      else
        if 57 < x0 then
          if x0 = 59 then
            some 3
          else
            (if x0 = 32 then
              some 5
            else
              if x0 = 10 then
                some 5
              else
                some 4).bind fun (p26 : Int32) =>
            some p26
        else
          some 2
    else
      some 1
theorem nm_X2_kindOf : yX2_kindOf.cls ≠ "java/lang/invoke/MethodHandle" ∧ yX2_kindOf.cls ≠ "java/lang/invoke/VarHandle" ∧ (parseMethodDescriptor yX2_kindOf.desc).map (fun d => d.parameters.length) = some 1 := by decide +kernel
set_option maxRecDepth 100000 in
set_option maxHeartbeats 4000000 in
theorem ct_X2_kindOf {E : Ev} {d : Nat} {z : Sh} {J : MJ} {I : MI} {x0 : Int32} {rr : Int32}  (h : f_X2_kindOf x0 = some rr) : Ct E (d + 0) yX2_kindOf cX2_kindOf 1 (some .int) 0 0 [.int x0] z J I (some (.int rr)) z J I := by
  unfold f_X2_kindOf at h
  refine Ct.of (own := RX2) (ls := [(0, .int x0)]) (by decide) rfl (Nat.le_of_ble_eq_true rfl) rfl ?_
  intro X hr0 hnm hX
  refine g_iload_n hX (pc := 0) (i := 0) dX2_kindOf_0 rfl 0 rfl ?_
  refine g_bipush hX (pc := 1) (v := 97) dX2_kindOf_1 (by decide) ?_
  refine g_icmp_lt hX (pc := 3) dX2_kindOf_3 (tgt := 14) (by decide) (fun c1 => ?_) (fun c1 => ?_)
  · replace h := ifP c1 h
    refine g_iload_n hX (pc := 14) (i := 0) dX2_kindOf_14 rfl 0 rfl ?_
    refine g_bipush hX (pc := 15) (v := 48) dX2_kindOf_15 (by decide) ?_
    refine g_icmp_lt hX (pc := 17) dX2_kindOf_17 (tgt := 28) (by decide) (fun c2 => ?_) (fun c2 => ?_)
    · replace h := ifP c2 h
      refine g_iload_n hX (pc := 28) (i := 0) dX2_kindOf_28 rfl 0 rfl ?_
      refine g_bipush hX (pc := 29) (v := 59) dX2_kindOf_29 (by decide) ?_
      refine g_icmp_ne hX (pc := 31) dX2_kindOf_31 (tgt := 36) (by decide) (fun c3 => ?_) (fun c3 => ?_)
      · replace h := ifP c3 h
        refine g_iconst hX (pc := 34) (v := 3) dX2_kindOf_34 (by decide) ?_
        obtain rfl := Option.some.inj h
        exact g_ireturn hX (Nat.le_refl _) (Nat.le_refl _) dX2_kindOf_35
      · replace h := ifN c3 h
        refine g_iload_n hX (pc := 36) (i := 0) dX2_kindOf_36 rfl 0 rfl ?_
        refine g_bipush hX (pc := 37) (v := 32) dX2_kindOf_37 (by decide) ?_
        obtain ⟨p7, hpj5, h⟩ := bnd h
        have Kj5 : ∀ qj5 : Int32, qj5 = p7 → GW E X (QX E X 0 0 (some (.int rr)) z J I) 1 53 [(0, .int x0)] [.int qj5] z J I 0 0 := by
          intro qj5 hqj5
          subst hqj5
          obtain rfl := Option.some.inj h
          exact g_ireturn hX (Nat.le_refl _) (Nat.le_refl _) dX2_kindOf_53
        replace h := hpj5
        clear hpj5
        refine g_icmp_eq hX (pc := 39) dX2_kindOf_39 (tgt := 48) (by decide) (fun c4 => ?_) (fun c4 => ?_)
        · replace h := ifP c4 h
          refine g_iconst hX (pc := 48) (v := 5) dX2_kindOf_48 (by decide) ?_
          refine g_goto hX (pc := 49) (tgt := 53) dX2_kindOf_49 (by decide) ?_
          exact Kj5 5 (Option.some.inj h)
        · replace h := ifN c4 h
          refine g_iload_n hX (pc := 42) (i := 0) dX2_kindOf_42 rfl 0 rfl ?_
          refine g_bipush hX (pc := 43) (v := 10) dX2_kindOf_43 (by decide) ?_
          refine g_icmp_ne hX (pc := 45) dX2_kindOf_45 (tgt := 52) (by decide) (fun c6 => ?_) (fun c6 => ?_)
          · replace h := ifP c6 h
            refine g_iconst hX (pc := 48) (v := 5) dX2_kindOf_48 (by decide) ?_
            refine g_goto hX (pc := 49) (tgt := 53) dX2_kindOf_49 (by decide) ?_
            exact Kj5 5 (Option.some.inj h)
          · replace h := ifN c6 h
            refine g_iconst hX (pc := 52) (v := 4) dX2_kindOf_52 (by decide) ?_
            exact Kj5 4 (Option.some.inj h)
    · replace h := ifN c2 h
      refine g_iload_n hX (pc := 20) (i := 0) dX2_kindOf_20 rfl 0 rfl ?_
      refine g_bipush hX (pc := 21) (v := 57) dX2_kindOf_21 (by decide) ?_
      refine g_icmp_gt hX (pc := 23) dX2_kindOf_23 (tgt := 28) (by decide) (fun c8 => ?_) (fun c8 => ?_)
      · replace h := ifP c8 h
        refine g_iload_n hX (pc := 28) (i := 0) dX2_kindOf_28 rfl 0 rfl ?_
        refine g_bipush hX (pc := 29) (v := 59) dX2_kindOf_29 (by decide) ?_
        refine g_icmp_ne hX (pc := 31) dX2_kindOf_31 (tgt := 36) (by decide) (fun c9 => ?_) (fun c9 => ?_)
        · replace h := ifP c9 h
          refine g_iconst hX (pc := 34) (v := 3) dX2_kindOf_34 (by decide) ?_
          obtain rfl := Option.some.inj h
          exact g_ireturn hX (Nat.le_refl _) (Nat.le_refl _) dX2_kindOf_35
        · replace h := ifN c9 h
          refine g_iload_n hX (pc := 36) (i := 0) dX2_kindOf_36 rfl 0 rfl ?_
          refine g_bipush hX (pc := 37) (v := 32) dX2_kindOf_37 (by decide) ?_
          obtain ⟨p13, hpj11, h⟩ := bnd h
          have Kj11 : ∀ qj11 : Int32, qj11 = p13 → GW E X (QX E X 0 0 (some (.int rr)) z J I) 1 53 [(0, .int x0)] [.int qj11] z J I 0 0 := by
            intro qj11 hqj11
            subst hqj11
            obtain rfl := Option.some.inj h
            exact g_ireturn hX (Nat.le_refl _) (Nat.le_refl _) dX2_kindOf_53
          replace h := hpj11
          clear hpj11
          refine g_icmp_eq hX (pc := 39) dX2_kindOf_39 (tgt := 48) (by decide) (fun c10 => ?_) (fun c10 => ?_)
          · replace h := ifP c10 h
            refine g_iconst hX (pc := 48) (v := 5) dX2_kindOf_48 (by decide) ?_
            refine g_goto hX (pc := 49) (tgt := 53) dX2_kindOf_49 (by decide) ?_
            exact Kj11 5 (Option.some.inj h)
          · replace h := ifN c10 h
            refine g_iload_n hX (pc := 42) (i := 0) dX2_kindOf_42 rfl 0 rfl ?_
            refine g_bipush hX (pc := 43) (v := 10) dX2_kindOf_43 (by decide) ?_
            refine g_icmp_ne hX (pc := 45) dX2_kindOf_45 (tgt := 52) (by decide) (fun c12 => ?_) (fun c12 => ?_)
            · replace h := ifP c12 h
              refine g_iconst hX (pc := 48) (v := 5) dX2_kindOf_48 (by decide) ?_
              refine g_goto hX (pc := 49) (tgt := 53) dX2_kindOf_49 (by decide) ?_
              exact Kj11 5 (Option.some.inj h)
            · replace h := ifN c12 h
              refine g_iconst hX (pc := 52) (v := 4) dX2_kindOf_52 (by decide) ?_
              exact Kj11 4 (Option.some.inj h)
      · replace h := ifN c8 h
        refine g_iconst hX (pc := 26) (v := 2) dX2_kindOf_26 (by decide) ?_
        obtain rfl := Option.some.inj h
        exact g_ireturn hX (Nat.le_refl _) (Nat.le_refl _) dX2_kindOf_27
  · replace h := ifN c1 h
    refine g_iload_n hX (pc := 6) (i := 0) dX2_kindOf_6 rfl 0 rfl ?_
    refine g_bipush hX (pc := 7) (v := 122) dX2_kindOf_7 (by decide) ?_
    refine g_icmp_gt hX (pc := 9) dX2_kindOf_9 (tgt := 14) (by decide) (fun c14 => ?_) (fun c14 => ?_)
    · replace h := ifP c14 h
      refine g_iload_n hX (pc := 14) (i := 0) dX2_kindOf_14 rfl 0 rfl ?_
      refine g_bipush hX (pc := 15) (v := 48) dX2_kindOf_15 (by decide) ?_
      refine g_icmp_lt hX (pc := 17) dX2_kindOf_17 (tgt := 28) (by decide) (fun c15 => ?_) (fun c15 => ?_)
      · replace h := ifP c15 h
        refine g_iload_n hX (pc := 28) (i := 0) dX2_kindOf_28 rfl 0 rfl ?_
        refine g_bipush hX (pc := 29) (v := 59) dX2_kindOf_29 (by decide) ?_
        refine g_icmp_ne hX (pc := 31) dX2_kindOf_31 (tgt := 36) (by decide) (fun c16 => ?_) (fun c16 => ?_)
        · replace h := ifP c16 h
          refine g_iconst hX (pc := 34) (v := 3) dX2_kindOf_34 (by decide) ?_
          obtain rfl := Option.some.inj h
          exact g_ireturn hX (Nat.le_refl _) (Nat.le_refl _) dX2_kindOf_35
        · replace h := ifN c16 h
          refine g_iload_n hX (pc := 36) (i := 0) dX2_kindOf_36 rfl 0 rfl ?_
          refine g_bipush hX (pc := 37) (v := 32) dX2_kindOf_37 (by decide) ?_
          obtain ⟨p20, hpj18, h⟩ := bnd h
          have Kj18 : ∀ qj18 : Int32, qj18 = p20 → GW E X (QX E X 0 0 (some (.int rr)) z J I) 1 53 [(0, .int x0)] [.int qj18] z J I 0 0 := by
            intro qj18 hqj18
            subst hqj18
            obtain rfl := Option.some.inj h
            exact g_ireturn hX (Nat.le_refl _) (Nat.le_refl _) dX2_kindOf_53
          replace h := hpj18
          clear hpj18
          refine g_icmp_eq hX (pc := 39) dX2_kindOf_39 (tgt := 48) (by decide) (fun c17 => ?_) (fun c17 => ?_)
          · replace h := ifP c17 h
            refine g_iconst hX (pc := 48) (v := 5) dX2_kindOf_48 (by decide) ?_
            refine g_goto hX (pc := 49) (tgt := 53) dX2_kindOf_49 (by decide) ?_
            exact Kj18 5 (Option.some.inj h)
          · replace h := ifN c17 h
            refine g_iload_n hX (pc := 42) (i := 0) dX2_kindOf_42 rfl 0 rfl ?_
            refine g_bipush hX (pc := 43) (v := 10) dX2_kindOf_43 (by decide) ?_
            refine g_icmp_ne hX (pc := 45) dX2_kindOf_45 (tgt := 52) (by decide) (fun c19 => ?_) (fun c19 => ?_)
            · replace h := ifP c19 h
              refine g_iconst hX (pc := 48) (v := 5) dX2_kindOf_48 (by decide) ?_
              refine g_goto hX (pc := 49) (tgt := 53) dX2_kindOf_49 (by decide) ?_
              exact Kj18 5 (Option.some.inj h)
            · replace h := ifN c19 h
              refine g_iconst hX (pc := 52) (v := 4) dX2_kindOf_52 (by decide) ?_
              exact Kj18 4 (Option.some.inj h)
      · replace h := ifN c15 h
        refine g_iload_n hX (pc := 20) (i := 0) dX2_kindOf_20 rfl 0 rfl ?_
        refine g_bipush hX (pc := 21) (v := 57) dX2_kindOf_21 (by decide) ?_
        refine g_icmp_gt hX (pc := 23) dX2_kindOf_23 (tgt := 28) (by decide) (fun c21 => ?_) (fun c21 => ?_)
        · replace h := ifP c21 h
          refine g_iload_n hX (pc := 28) (i := 0) dX2_kindOf_28 rfl 0 rfl ?_
          refine g_bipush hX (pc := 29) (v := 59) dX2_kindOf_29 (by decide) ?_
          refine g_icmp_ne hX (pc := 31) dX2_kindOf_31 (tgt := 36) (by decide) (fun c22 => ?_) (fun c22 => ?_)
          · replace h := ifP c22 h
            refine g_iconst hX (pc := 34) (v := 3) dX2_kindOf_34 (by decide) ?_
            obtain rfl := Option.some.inj h
            exact g_ireturn hX (Nat.le_refl _) (Nat.le_refl _) dX2_kindOf_35
          · replace h := ifN c22 h
            refine g_iload_n hX (pc := 36) (i := 0) dX2_kindOf_36 rfl 0 rfl ?_
            refine g_bipush hX (pc := 37) (v := 32) dX2_kindOf_37 (by decide) ?_
            obtain ⟨p26, hpj24, h⟩ := bnd h
            have Kj24 : ∀ qj24 : Int32, qj24 = p26 → GW E X (QX E X 0 0 (some (.int rr)) z J I) 1 53 [(0, .int x0)] [.int qj24] z J I 0 0 := by
              intro qj24 hqj24
              subst hqj24
              obtain rfl := Option.some.inj h
              exact g_ireturn hX (Nat.le_refl _) (Nat.le_refl _) dX2_kindOf_53
            replace h := hpj24
            clear hpj24
            refine g_icmp_eq hX (pc := 39) dX2_kindOf_39 (tgt := 48) (by decide) (fun c23 => ?_) (fun c23 => ?_)
            · replace h := ifP c23 h
              refine g_iconst hX (pc := 48) (v := 5) dX2_kindOf_48 (by decide) ?_
              refine g_goto hX (pc := 49) (tgt := 53) dX2_kindOf_49 (by decide) ?_
              exact Kj24 5 (Option.some.inj h)
            · replace h := ifN c23 h
              refine g_iload_n hX (pc := 42) (i := 0) dX2_kindOf_42 rfl 0 rfl ?_
              refine g_bipush hX (pc := 43) (v := 10) dX2_kindOf_43 (by decide) ?_
              refine g_icmp_ne hX (pc := 45) dX2_kindOf_45 (tgt := 52) (by decide) (fun c25 => ?_) (fun c25 => ?_)
              · replace h := ifP c25 h
                refine g_iconst hX (pc := 48) (v := 5) dX2_kindOf_48 (by decide) ?_
                refine g_goto hX (pc := 49) (tgt := 53) dX2_kindOf_49 (by decide) ?_
                exact Kj24 5 (Option.some.inj h)
              · replace h := ifN c25 h
                refine g_iconst hX (pc := 52) (v := 4) dX2_kindOf_52 (by decide) ?_
                exact Kj24 4 (Option.some.inj h)
        · replace h := ifN c21 h
          refine g_iconst hX (pc := 26) (v := 2) dX2_kindOf_26 (by decide) ?_
          obtain rfl := Option.some.inj h
          exact g_ireturn hX (Nat.le_refl _) (Nat.le_refl _) dX2_kindOf_27
    · replace h := ifN c14 h
      refine g_iconst hX (pc := 12) (v := 1) dX2_kindOf_12 (by decide) ?_
      obtain rfl := Option.some.inj h
      exact g_ireturn hX (Nat.le_refl _) (Nat.le_refl _) dX2_kindOf_13
noncomputable def f_X3_init (o0 : Nat) (z : Sh) (I : MI) : Option (Sh × MI) :=
  (wf I o0 0 0).bind fun I1 =>
  (wf I1 o0 1 4).bind fun I2 =>
  (wf I2 o0 2 0).bind fun I3 =>
  (wf I3 o0 3 4).bind fun I4 =>
  (wf I4 o0 4 30).bind fun I5 =>
  (wf I5 o0 5 0).bind fun I6 =>
  (wf I6 o0 6 0).bind fun I7 =>
  (nm (zNa z 7 10)).bind fun z9 =>
  (nm (clr 0 I7 (zs z))).bind fun I8 =>
  (nm (zSt z9 o0 7 (some (zs z)))).bind fun z11 =>
  (nm (zNa z11 7 10)).bind fun z14 =>
  (nm (clr 0 I8 (zs z11))).bind fun I13 =>
  (nm (zSt z14 o0 8 (some (zs z11)))).bind fun z16 =>
  (nm (zNa z16 7 10)).bind fun z19 =>
  (nm (clr 0 I13 (zs z16))).bind fun I18 =>
  (nm (zSt z19 o0 9 (some (zs z16)))).bind fun z21 =>
  (wf I18 o0 10 0).bind fun I23 =>
  (nm (zNa z21 7 16)).bind fun z25 =>
  (nm (clr 0 I23 (zs z21))).bind fun I24 =>
  (nm (zSt z25 o0 11 (some (zs z21)))).bind fun z27 =>
  (nm (zNa z27 7 16)).bind fun z30 =>
  (nm (clr 0 I24 (zs z27))).bind fun I29 =>
  (nm (zSt z30 o0 12 (some (zs z27)))).bind fun z32 =>
  (nm (zNa z32 7 160)).bind fun z35 =>
  (nm (clr 0 I29 (zs z32))).bind fun I34 =>
  (nm (zSt z35 o0 13 (some (zs z32)))).bind fun z37 =>
  (nm (zNa z37 7 16)).bind fun z40 =>
  (nm (clr 0 I34 (zs z37))).bind fun I39 =>
  (nm (zSt z40 o0 14 (some (zs z37)))).bind fun z42 =>
  (nm (zNa z42 7 16)).bind fun z45 =>
  (nm (clr 0 I39 (zs z42))).bind fun I44 =>
  (nm (zSt z45 o0 15 (some (zs z42)))).bind fun z47 =>
  (nm (zNa z47 7 16)).bind fun z50 =>
  (nm (clr 0 I44 (zs z47))).bind fun I49 =>
  (nm (zSt z50 o0 16 (some (zs z47)))).bind fun z52 =>
  some ((z52, I49))
theorem nm_X3_init : yX3_init.cls ≠ "java/lang/invoke/MethodHandle" ∧ yX3_init.cls ≠ "java/lang/invoke/VarHandle" ∧ (parseMethodDescriptor yX3_init.desc).map (fun d => d.parameters.length) = some 0 := by decide +kernel
set_option maxRecDepth 100000 in
set_option maxHeartbeats 4000000 in
theorem ct_X3_init {E : Ev} {d : Nat} {z : Sh} {J : MJ} {I : MI} {o0 : Nat} {zz : Sh} {Iz : MI} (ho0 : raw z o0 3) (h : f_X3_init o0 z I = some ((zz, Iz))) : Ct E (d + 1) yX3_init cX3_init 1 none 9 270 [.ref o0] z J I none zz J Iz := by
  unfold f_X3_init at h
  refine Ct.of (own := RX3) (ls := [(0, .ref o0)]) (by decide) rfl (Nat.le_of_ble_eq_true rfl) rfl ?_
  intro X hr0 hnm hX
  refine g_aload_n hX (pc := 0) (i := 0) dX3_init_0 rfl 0 rfl ?_
  refine g_objInit hX (pc := 1) (d := d + 0) hr0 ml_X3_3 im_java_lang_Object__init__3 co_objInit (by exact Nat.le_of_ble_eq_true rfl) dX3_init_1 ?_
  refine g_aload_n hX (pc := 4) (i := 0) dX3_init_4 rfl 0 rfl ?_
  refine g_iconst hX (pc := 5) (v := 0) dX3_init_5 (by decide) ?_
  obtain ⟨I1, e_I1, h⟩ := bnd h
  refine pi3_0 hX (pc := 6) ho0 fl_X3_9 dX3_init_6 e_I1 ?_
  refine g_aload_n hX (pc := 9) (i := 0) dX3_init_9 rfl 0 rfl ?_
  refine g_iconst hX (pc := 10) (v := 4) dX3_init_10 (by decide) ?_
  obtain ⟨I2, e_I2, h⟩ := bnd h
  refine pi3_1 hX (pc := 11) ho0 fl_X3_15 dX3_init_11 e_I2 ?_
  refine g_aload_n hX (pc := 14) (i := 0) dX3_init_14 rfl 0 rfl ?_
  refine g_iconst hX (pc := 15) (v := 0) dX3_init_15 (by decide) ?_
  obtain ⟨I3, e_I3, h⟩ := bnd h
  refine pi3_2 hX (pc := 16) ho0 fl_X3_18 dX3_init_16 e_I3 (by decide) ?_
  refine g_aload_n hX (pc := 19) (i := 0) dX3_init_19 rfl 0 rfl ?_
  refine g_iconst hX (pc := 20) (v := 4) dX3_init_20 (by decide) ?_
  obtain ⟨I4, e_I4, h⟩ := bnd h
  refine pi3_3 hX (pc := 21) ho0 fl_X3_22 dX3_init_21 e_I4 ?_
  refine g_aload_n hX (pc := 24) (i := 0) dX3_init_24 rfl 0 rfl ?_
  refine g_bipush hX (pc := 25) (v := 30) dX3_init_25 (by decide) ?_
  obtain ⟨I5, e_I5, h⟩ := bnd h
  refine pi3_4 hX (pc := 27) ho0 fl_X3_25 dX3_init_27 e_I5 ?_
  refine g_aload_n hX (pc := 30) (i := 0) dX3_init_30 rfl 0 rfl ?_
  refine g_iconst hX (pc := 31) (v := 0) dX3_init_31 (by decide) ?_
  obtain ⟨I6, e_I6, h⟩ := bnd h
  refine pi3_5 hX (pc := 32) ho0 fl_X3_28 dX3_init_32 e_I6 (by decide) ?_
  refine g_aload_n hX (pc := 35) (i := 0) dX3_init_35 rfl 0 rfl ?_
  refine g_iconst hX (pc := 36) (v := 0) dX3_init_36 (by decide) ?_
  obtain ⟨I7, e_I7, h⟩ := bnd h
  refine pi3_6 hX (pc := 37) ho0 fl_X3_31 dX3_init_37 e_I7 ?_
  refine g_aload_n hX (pc := 40) (i := 0) dX3_init_40 rfl 0 rfl ?_
  refine g_bipush hX (pc := 41) (v := 10) dX3_init_41 (by decide) ?_
  refine g_newA7 hX (pc := 43) hr0 (N := 10) (by decide) (by decide) (by decide) (by decide) dX3_init_43 ?_
  obtain ⟨z9, e_z9, h⟩ := bnd h
  refine g_nmz e_z9 ?_
  have hu10 := raw.nm e_z9 (ho0.na 7 10)
  obtain ⟨I8, e_I8, h⟩ := bnd h
  refine g_nmM e_I8 ?_
  refine pr3_7 hX (pc := 45) hu10 fl_X3_34 hnm rfl dX3_init_45 ?_
  obtain ⟨z11, e_z11, h⟩ := bnd h
  refine g_nmz e_z11 ?_
  have hu12 := raw.nm e_z11 (hu10.st o0 7 (some (zs z)))
  refine g_aload_n hX (pc := 48) (i := 0) dX3_init_48 rfl 0 rfl ?_
  refine g_bipush hX (pc := 49) (v := 10) dX3_init_49 (by decide) ?_
  refine g_newA7 hX (pc := 51) hr0 (N := 10) (by decide) (by decide) (by decide) (by decide) dX3_init_51 ?_
  obtain ⟨z14, e_z14, h⟩ := bnd h
  refine g_nmz e_z14 ?_
  have hu15 := raw.nm e_z14 (hu12.na 7 10)
  obtain ⟨I13, e_I13, h⟩ := bnd h
  refine g_nmM e_I13 ?_
  refine pr3_8 hX (pc := 53) hu15 fl_X3_38 hnm rfl dX3_init_53 ?_
  obtain ⟨z16, e_z16, h⟩ := bnd h
  refine g_nmz e_z16 ?_
  have hu17 := raw.nm e_z16 (hu15.st o0 8 (some (zs z11)))
  refine g_aload_n hX (pc := 56) (i := 0) dX3_init_56 rfl 0 rfl ?_
  refine g_bipush hX (pc := 57) (v := 10) dX3_init_57 (by decide) ?_
  refine g_newA7 hX (pc := 59) hr0 (N := 10) (by decide) (by decide) (by decide) (by decide) dX3_init_59 ?_
  obtain ⟨z19, e_z19, h⟩ := bnd h
  refine g_nmz e_z19 ?_
  have hu20 := raw.nm e_z19 (hu17.na 7 10)
  obtain ⟨I18, e_I18, h⟩ := bnd h
  refine g_nmM e_I18 ?_
  refine pr3_9 hX (pc := 61) hu20 fl_X3_41 hnm rfl dX3_init_61 ?_
  obtain ⟨z21, e_z21, h⟩ := bnd h
  refine g_nmz e_z21 ?_
  have hu22 := raw.nm e_z21 (hu20.st o0 9 (some (zs z16)))
  refine g_aload_n hX (pc := 64) (i := 0) dX3_init_64 rfl 0 rfl ?_
  refine g_iconst hX (pc := 65) (v := 0) dX3_init_65 (by decide) ?_
  obtain ⟨I23, e_I23, h⟩ := bnd h
  refine pi3_10 hX (pc := 66) hu22 fl_X3_44 dX3_init_66 e_I23 ?_
  refine g_aload_n hX (pc := 69) (i := 0) dX3_init_69 rfl 0 rfl ?_
  refine g_bipush hX (pc := 70) (v := 16) dX3_init_70 (by decide) ?_
  refine g_newA7 hX (pc := 72) hr0 (N := 16) (by decide) (by decide) (by decide) (by decide) dX3_init_72 ?_
  obtain ⟨z25, e_z25, h⟩ := bnd h
  refine g_nmz e_z25 ?_
  have hu26 := raw.nm e_z25 (hu22.na 7 16)
  obtain ⟨I24, e_I24, h⟩ := bnd h
  refine g_nmM e_I24 ?_
  refine pr3_11 hX (pc := 74) hu26 fl_X3_47 hnm rfl dX3_init_74 ?_
  obtain ⟨z27, e_z27, h⟩ := bnd h
  refine g_nmz e_z27 ?_
  have hu28 := raw.nm e_z27 (hu26.st o0 11 (some (zs z21)))
  refine g_aload_n hX (pc := 77) (i := 0) dX3_init_77 rfl 0 rfl ?_
  refine g_bipush hX (pc := 78) (v := 16) dX3_init_78 (by decide) ?_
  refine g_newA7 hX (pc := 80) hr0 (N := 16) (by decide) (by decide) (by decide) (by decide) dX3_init_80 ?_
  obtain ⟨z30, e_z30, h⟩ := bnd h
  refine g_nmz e_z30 ?_
  have hu31 := raw.nm e_z30 (hu28.na 7 16)
  obtain ⟨I29, e_I29, h⟩ := bnd h
  refine g_nmM e_I29 ?_
  refine pr3_12 hX (pc := 82) hu31 fl_X3_50 hnm rfl dX3_init_82 ?_
  obtain ⟨z32, e_z32, h⟩ := bnd h
  refine g_nmz e_z32 ?_
  have hu33 := raw.nm e_z32 (hu31.st o0 12 (some (zs z27)))
  refine g_aload_n hX (pc := 85) (i := 0) dX3_init_85 rfl 0 rfl ?_
  refine g_sipush hX (pc := 86) (v := 160) dX3_init_86 (by decide) ?_
  refine g_newA7 hX (pc := 89) hr0 (N := 160) (by decide) (by decide) (by decide) (by decide) dX3_init_89 ?_
  obtain ⟨z35, e_z35, h⟩ := bnd h
  refine g_nmz e_z35 ?_
  have hu36 := raw.nm e_z35 (hu33.na 7 160)
  obtain ⟨I34, e_I34, h⟩ := bnd h
  refine g_nmM e_I34 ?_
  refine pr3_13 hX (pc := 91) hu36 fl_X3_53 hnm rfl dX3_init_91 ?_
  obtain ⟨z37, e_z37, h⟩ := bnd h
  refine g_nmz e_z37 ?_
  have hu38 := raw.nm e_z37 (hu36.st o0 13 (some (zs z32)))
  refine g_aload_n hX (pc := 94) (i := 0) dX3_init_94 rfl 0 rfl ?_
  refine g_bipush hX (pc := 95) (v := 16) dX3_init_95 (by decide) ?_
  refine g_newA7 hX (pc := 97) hr0 (N := 16) (by decide) (by decide) (by decide) (by decide) dX3_init_97 ?_
  obtain ⟨z40, e_z40, h⟩ := bnd h
  refine g_nmz e_z40 ?_
  have hu41 := raw.nm e_z40 (hu38.na 7 16)
  obtain ⟨I39, e_I39, h⟩ := bnd h
  refine g_nmM e_I39 ?_
  refine pr3_14 hX (pc := 99) hu41 fl_X3_56 hnm rfl dX3_init_99 ?_
  obtain ⟨z42, e_z42, h⟩ := bnd h
  refine g_nmz e_z42 ?_
  have hu43 := raw.nm e_z42 (hu41.st o0 14 (some (zs z37)))
  refine g_aload_n hX (pc := 102) (i := 0) dX3_init_102 rfl 0 rfl ?_
  refine g_bipush hX (pc := 103) (v := 16) dX3_init_103 (by decide) ?_
  refine g_newA7 hX (pc := 105) hr0 (N := 16) (by decide) (by decide) (by decide) (by decide) dX3_init_105 ?_
  obtain ⟨z45, e_z45, h⟩ := bnd h
  refine g_nmz e_z45 ?_
  have hu46 := raw.nm e_z45 (hu43.na 7 16)
  obtain ⟨I44, e_I44, h⟩ := bnd h
  refine g_nmM e_I44 ?_
  refine pr3_15 hX (pc := 107) hu46 fl_X3_59 hnm rfl dX3_init_107 ?_
  obtain ⟨z47, e_z47, h⟩ := bnd h
  refine g_nmz e_z47 ?_
  have hu48 := raw.nm e_z47 (hu46.st o0 15 (some (zs z42)))
  refine g_aload_n hX (pc := 110) (i := 0) dX3_init_110 rfl 0 rfl ?_
  refine g_bipush hX (pc := 111) (v := 16) dX3_init_111 (by decide) ?_
  refine g_newA7 hX (pc := 113) hr0 (N := 16) (by decide) (by decide) (by decide) (by decide) dX3_init_113 ?_
  obtain ⟨z50, e_z50, h⟩ := bnd h
  refine g_nmz e_z50 ?_
  have hu51 := raw.nm e_z50 (hu48.na 7 16)
  obtain ⟨I49, e_I49, h⟩ := bnd h
  refine g_nmM e_I49 ?_
  refine pr3_16 hX (pc := 115) hu51 fl_X3_62 hnm rfl dX3_init_115 ?_
  obtain ⟨z52, e_z52, h⟩ := bnd h
  refine g_nmz e_z52 ?_
  have hu53 := raw.nm e_z52 (hu51.st o0 16 (some (zs z47)))
  replace h := Option.some.inj h
  obtain ⟨rfl, rfl⟩ := Prod.mk.inj h
  exact g_return hX (by decide) (by decide) dX3_init_118
noncomputable def f_X3_isItem (o0 : Nat) (x1 : Int32) (I : MI) : Option (Int32) :=
  (if x1 < 0 then
    some 0
  else
    if x1 < (I o0 6) then
      some 1
    else
      some 0).bind fun (p4 : Int32) =>
  (gb p4).bind fun b5 =>
  some p4
theorem nm_X3_isItem : yX3_isItem.cls ≠ "java/lang/invoke/MethodHandle" ∧ yX3_isItem.cls ≠ "java/lang/invoke/VarHandle" ∧ (parseMethodDescriptor yX3_isItem.desc).map (fun d => d.parameters.length) = some 1 := by decide +kernel
set_option maxRecDepth 100000 in
set_option maxHeartbeats 4000000 in
theorem ct_X3_isItem {E : Ev} {d : Nat} {z : Sh} {J : MJ} {I : MI} {o0 : Nat} {x1 : Int32} {rr : Int32} (ho0 : oX3 z o0) (h : f_X3_isItem o0 x1 I = some rr) : Ct E (d + 0) yX3_isItem cX3_isItem 2 (some .boolean) 0 0 [.ref o0, .int x1] z J I (some (.int rr)) z J I := by
  unfold f_X3_isItem at h
  refine Ct.of (own := RX3) (ls := [(0, .ref o0), (1, .int x1)]) (by decide) rfl (Nat.le_of_ble_eq_true rfl) rfl ?_
  intro X hr0 hnm hX
  refine g_iload_n hX (pc := 0) (i := 1) dX3_isItem_0 rfl 1 rfl ?_
  obtain ⟨p4, hpj2, h⟩ := bnd h
  have Kj2 : ∀ qj2 : Int32, qj2 = p4 → GW E X (QX E X 0 0 (some (.int rr)) z J I) 2 17 [(0, .ref o0), (1, .int x1)] [.int qj2] z J I 0 0 := by
    intro qj2 hqj2
    subst hqj2
    obtain ⟨b5, e_b5, h⟩ := bnd h
    obtain rfl := Option.some.inj h
    exact g_zreturn hX (gb_some e_b5).1 (Nat.le_refl _) (Nat.le_refl _) dX3_isItem_17
  replace h := hpj2
  clear hpj2
  refine g_if_lt hX (pc := 1) dX3_isItem_1 (tgt := 16) (by decide) (fun c1 => ?_) (fun c1 => ?_)
  · replace h := ifP c1 h
    refine g_iconst hX (pc := 16) (v := 0) dX3_isItem_16 (by decide) ?_
    exact Kj2 0 (Option.some.inj h)
  · replace h := ifN c1 h
    refine g_iload_n hX (pc := 4) (i := 1) dX3_isItem_4 rfl 1 rfl ?_
    refine g_aload_n hX (pc := 5) (i := 0) dX3_isItem_5 rfl 0 rfl ?_
    refine gf3_6 hX (pc := 6) ho0 fl_X3_31 dX3_isItem_6 ?_
    refine g_icmp_ge hX (pc := 9) dX3_isItem_9 (tgt := 16) (by decide) (fun c3 => ?_) (fun c3 => ?_)
    · replace h := ifP c3 h
      refine g_iconst hX (pc := 12) (v := 1) dX3_isItem_12 (by decide) ?_
      refine g_goto hX (pc := 13) (tgt := 17) dX3_isItem_13 (by decide) ?_
      exact Kj2 1 (Option.some.inj h)
    · replace h := ifN c3 h
      refine g_iconst hX (pc := 16) (v := 0) dX3_isItem_16 (by decide) ?_
      exact Kj2 0 (Option.some.inj h)
noncomputable def f_X3_isOrder (o0 : Nat) (x1 : Int32) (I : MI) : Option (Int32) :=
  (if x1 < 0 then
    some 0
  else
    if x1 < (I o0 10) then
      some 1
    else
      some 0).bind fun (p4 : Int32) =>
  (gb p4).bind fun b5 =>
  some p4
theorem nm_X3_isOrder : yX3_isOrder.cls ≠ "java/lang/invoke/MethodHandle" ∧ yX3_isOrder.cls ≠ "java/lang/invoke/VarHandle" ∧ (parseMethodDescriptor yX3_isOrder.desc).map (fun d => d.parameters.length) = some 1 := by decide +kernel
set_option maxRecDepth 100000 in
set_option maxHeartbeats 4000000 in
theorem ct_X3_isOrder {E : Ev} {d : Nat} {z : Sh} {J : MJ} {I : MI} {o0 : Nat} {x1 : Int32} {rr : Int32} (ho0 : oX3 z o0) (h : f_X3_isOrder o0 x1 I = some rr) : Ct E (d + 0) yX3_isOrder cX3_isOrder 2 (some .boolean) 0 0 [.ref o0, .int x1] z J I (some (.int rr)) z J I := by
  unfold f_X3_isOrder at h
  refine Ct.of (own := RX3) (ls := [(0, .ref o0), (1, .int x1)]) (by decide) rfl (Nat.le_of_ble_eq_true rfl) rfl ?_
  intro X hr0 hnm hX
  refine g_iload_n hX (pc := 0) (i := 1) dX3_isOrder_0 rfl 1 rfl ?_
  obtain ⟨p4, hpj2, h⟩ := bnd h
  have Kj2 : ∀ qj2 : Int32, qj2 = p4 → GW E X (QX E X 0 0 (some (.int rr)) z J I) 2 17 [(0, .ref o0), (1, .int x1)] [.int qj2] z J I 0 0 := by
    intro qj2 hqj2
    subst hqj2
    obtain ⟨b5, e_b5, h⟩ := bnd h
    obtain rfl := Option.some.inj h
    exact g_zreturn hX (gb_some e_b5).1 (Nat.le_refl _) (Nat.le_refl _) dX3_isOrder_17
  replace h := hpj2
  clear hpj2
  refine g_if_lt hX (pc := 1) dX3_isOrder_1 (tgt := 16) (by decide) (fun c1 => ?_) (fun c1 => ?_)
  · replace h := ifP c1 h
    refine g_iconst hX (pc := 16) (v := 0) dX3_isOrder_16 (by decide) ?_
    exact Kj2 0 (Option.some.inj h)
  · replace h := ifN c1 h
    refine g_iload_n hX (pc := 4) (i := 1) dX3_isOrder_4 rfl 1 rfl ?_
    refine g_aload_n hX (pc := 5) (i := 0) dX3_isOrder_5 rfl 0 rfl ?_
    refine gf3_10 hX (pc := 6) ho0 fl_X3_44 dX3_isOrder_6 ?_
    refine g_icmp_ge hX (pc := 9) dX3_isOrder_9 (tgt := 16) (by decide) (fun c3 => ?_) (fun c3 => ?_)
    · replace h := ifP c3 h
      refine g_iconst hX (pc := 12) (v := 1) dX3_isOrder_12 (by decide) ?_
      refine g_goto hX (pc := 13) (tgt := 17) dX3_isOrder_13 (by decide) ?_
      exact Kj2 1 (Option.some.inj h)
    · replace h := ifN c3 h
      refine g_iconst hX (pc := 16) (v := 0) dX3_isOrder_16 (by decide) ?_
      exact Kj2 0 (Option.some.inj h)
noncomputable def b_X3_itemNamed_2 (o0 : Nat) (x1 : Int32) (I : MI) (s : Int32) : Option ((Int32) ⊕ ((Int32) ⊕ (Int32))) :=
  if s < (I o0 6) then
    (rd 10 (I (o0 + 1)) s).bind fun v4 =>
    if v4 = x1 then
      some (.inr (.inl s))
    else
      some (.inl (s + 1))
  else
    some (.inr (.inr s))
noncomputable def f_X3_itemNamed (o0 : Nat) (x1 : Int32) (I : MI) : Option (Int32) :=
  (lp (b_X3_itemNamed_2 o0 x1 I) 0).bind fun p6 =>
  Sum.elim (fun rr => some rr) (fun q7 =>
    some ((-1))) p6
theorem nm_X3_itemNamed : yX3_itemNamed.cls ≠ "java/lang/invoke/MethodHandle" ∧ yX3_itemNamed.cls ≠ "java/lang/invoke/VarHandle" ∧ (parseMethodDescriptor yX3_itemNamed.desc).map (fun d => d.parameters.length) = some 1 := by decide +kernel
set_option maxRecDepth 100000 in
set_option maxHeartbeats 4000000 in
theorem ct_X3_itemNamed {E : Ev} {d : Nat} {z : Sh} {J : MJ} {I : MI} {o0 : Nat} {x1 : Int32} {rr : Int32} (ho0 : oX3 z o0) (h : f_X3_itemNamed o0 x1 I = some rr) : Ct E (d + 0) yX3_itemNamed cX3_itemNamed 3 (some .int) 0 0 [.ref o0, .int x1] z J I (some (.int rr)) z J I := by
  unfold f_X3_itemNamed at h
  refine Ct.of (own := RX3) (ls := [(0, .ref o0), (1, .int x1)]) (by decide) rfl (Nat.le_of_ble_eq_true rfl) rfl ?_
  intro X hr0 hnm hX
  refine g_iconst hX (pc := 0) (v := 0) dX3_itemNamed_0 (by decide) ?_
  refine g_istore_n hX (pc := 1) (i := 2) (ls' := [(0, .ref o0), (1, .int x1), (2, .int 0)]) [1, 2, 0] dX3_itemNamed_1 rfl (by decide) rfl ?_
  obtain ⟨p6, hpl2, h⟩ := bnd h
  have KRl2 : ∀ rl2 : Int32, Sum.inl rl2 = p6 → some rl2 = some rr := by intro rl2 hrl2; subst hrl2; exact h
  have Kl2 : ∀ q7 : Int32, Sum.inr q7 = p6 → GW E X (QX E X 0 0 (some (.int rr)) z J I) 3 28 [(0, .ref o0), (1, .int x1), (2, .int q7)] [] z J I 0 0 := by
    intro q7 hql2
    subst hql2
    refine g_iconst hX (pc := 28) (v := (-1)) dX3_itemNamed_28 (by decide) ?_
    obtain rfl := Option.some.inj h
    exact g_ireturn hX (Nat.le_refl _) (Nat.le_refl _) dX3_itemNamed_29
  obtain ⟨kl2, hkl2⟩ := lp_ex hpl2
  clear hpl2 h
  have Ll2 : ∀ k : Nat, ∀ (s1 : Int32), lpN k (b_X3_itemNamed_2 o0 x1 I) s1 = some p6 → GW E X (QX E X 0 0 (some (.int rr)) z J I) 3 2 [(0, .ref o0), (1, .int x1), (2, .int s1)] [] z J I 0 0 := by
    intro k
    induction k with
    | zero => intro s1 h; cases h
    | succ k ihl2 =>
      intro s1 h
      obtain ⟨wl2, h, hwl2⟩ := lpN_s h
      unfold b_X3_itemNamed_2 at h
      try dsimp only at h
      refine g_iload_n hX (pc := 2) (i := 2) dX3_itemNamed_2 rfl 2 rfl ?_
      refine g_aload_n hX (pc := 3) (i := 0) dX3_itemNamed_3 rfl 0 rfl ?_
      refine gf3_6 hX (pc := 4) ho0 fl_X3_31 dX3_itemNamed_4 ?_
      refine g_icmp_ge hX (pc := 7) dX3_itemNamed_7 (tgt := 28) (by decide) (fun c3 => ?_) (fun c3 => ?_)
      · replace h := ifP c3 h
        refine g_aload_n hX (pc := 10) (i := 0) dX3_itemNamed_10 rfl 0 rfl ?_
        refine gf3_7 hX (pc := 11) ho0 fl_X3_34 dX3_itemNamed_11 ?_
        refine g_iload_n hX (pc := 14) (i := 2) dX3_itemNamed_14 rfl 2 rfl ?_
        obtain ⟨v4, e_v4, h⟩ := bnd h
        refine g_ialoadE hX (pc := 15) (s3_7 ho0).1 (s3_7 ho0).2.1 (s3_7 ho0).2.2.1 e_v4 dX3_itemNamed_15 ?_
        refine g_iload_n hX (pc := 16) (i := 1) dX3_itemNamed_16 rfl 1 rfl ?_
        refine g_icmp_ne hX (pc := 17) dX3_itemNamed_17 (tgt := 22) (by decide) (fun c5 => ?_) (fun c5 => ?_)
        · replace h := ifP c5 h
          refine g_iload_n hX (pc := 20) (i := 2) dX3_itemNamed_20 rfl 2 rfl ?_
          obtain rfl := Option.some.inj h
          replace h := KRl2 _ hwl2
          obtain rfl := Option.some.inj h
          exact g_ireturn hX (Nat.le_refl _) (Nat.le_refl _) dX3_itemNamed_21
        · replace h := ifN c5 h
          refine g_iinc hX (pc := 22) (i := 2) (v := s1 + 1) (ls' := [(0, .ref o0), (1, .int x1), (2, .int (s1 + 1))]) 2 [1, 2, 0] dX3_itemNamed_22 rfl (by rfl) (by decide) rfl ?_
          refine g_goto hX (pc := 25) (tgt := 2) dX3_itemNamed_25 (by decide) ?_
          obtain rfl := Option.some.inj h
          exact ihl2 (s1 + 1) hwl2
      · replace h := ifN c3 h
        obtain rfl := Option.some.inj h
        exact Kl2 s1 hwl2
  exact Ll2 kl2 0 hkl2
noncomputable def b_X3_hasName_2 (o0 : Nat) (x1 : Int32) (I : MI) (s : Int32) : Option ((Int32) ⊕ ((Int32) ⊕ (Int32))) :=
  if s < (I o0 10) then
    (rd 16 (I (o0 + 4)) s).bind fun v4 =>
    if v4 = x1 then
      some (.inr (.inl 1))
    else
      some (.inl (s + 1))
  else
    some (.inr (.inr s))
noncomputable def f_X3_hasName (o0 : Nat) (x1 : Int32) (I : MI) : Option (Int32) :=
  (lp (b_X3_hasName_2 o0 x1 I) 0).bind fun p6 =>
  Sum.elim (fun rr => some rr) (fun q7 =>
    (f_X3_itemNamed o0 x1 I).bind fun r8 =>
    (if r8 = ((-1)) then
      some 0
    else
      some 1).bind fun (p11 : Int32) =>
    (gb p11).bind fun b12 =>
    some p11) p6
theorem nm_X3_hasName : yX3_hasName.cls ≠ "java/lang/invoke/MethodHandle" ∧ yX3_hasName.cls ≠ "java/lang/invoke/VarHandle" ∧ (parseMethodDescriptor yX3_hasName.desc).map (fun d => d.parameters.length) = some 1 := by decide +kernel
set_option maxRecDepth 100000 in
set_option maxHeartbeats 4000000 in
theorem ct_X3_hasName {E : Ev} {d : Nat} {z : Sh} {J : MJ} {I : MI} {o0 : Nat} {x1 : Int32} {rr : Int32} (ho0 : oX3 z o0) (h : f_X3_hasName o0 x1 I = some rr) : Ct E (d + 1) yX3_hasName cX3_hasName 3 (some .boolean) 0 0 [.ref o0, .int x1] z J I (some (.int rr)) z J I := by
  unfold f_X3_hasName at h
  refine Ct.of (own := RX3) (ls := [(0, .ref o0), (1, .int x1)]) (by decide) rfl (Nat.le_of_ble_eq_true rfl) rfl ?_
  intro X hr0 hnm hX
  refine g_iconst hX (pc := 0) (v := 0) dX3_hasName_0 (by decide) ?_
  refine g_istore_n hX (pc := 1) (i := 2) (ls' := [(0, .ref o0), (1, .int x1), (2, .int 0)]) [1, 2, 0] dX3_hasName_1 rfl (by decide) rfl ?_
  obtain ⟨p6, hpl2, h⟩ := bnd h
  have KRl2 : ∀ rl2 : Int32, Sum.inl rl2 = p6 → some rl2 = some rr := by intro rl2 hrl2; subst hrl2; exact h
  have Kl2 : ∀ q7 : Int32, Sum.inr q7 = p6 → GW E X (QX E X 0 0 (some (.int rr)) z J I) 3 28 [(0, .ref o0), (1, .int x1), (2, .int q7)] [] z J I 0 0 := by
    intro q7 hql2
    subst hql2
    refine g_aload_n hX (pc := 28) (i := 0) dX3_hasName_28 rfl 0 rfl ?_
    refine g_iload_n hX (pc := 29) (i := 1) dX3_hasName_29 rfl 1 rfl ?_
    obtain ⟨r8, e_r8, h⟩ := bnd h
    refine g_callVi hX (pc := 30) (d := d + 0) hr0 [.int x1] (c := 3) (ct_X3_itemNamed (d := d + 0) ho0 e_r8) ho0.1.1 ho0.1.2 (by decide) rfl co_X3_itemNamed ml_X3_71 im_X3_itemNamed sl_X3_itemNamed ini_X3 nm_X3_itemNamed (by decide) ⟨Nat.le_refl _, Nat.le_refl _⟩ (Nat.le_refl _) (Nat.le_of_ble_eq_true rfl) rfl dX3_hasName_30 ?_
    refine g_iconst hX (pc := 33) (v := (-1)) dX3_hasName_33 (by decide) ?_
    obtain ⟨p11, hpj10, h⟩ := bnd h
    have Kj10 : ∀ qj10 : Int32, qj10 = p11 → GW E X (QX E X 0 0 (some (.int rr)) z J I) 3 42 [(0, .ref o0), (1, .int x1), (2, .int q7)] [.int qj10] z J I 0 0 := by
      intro qj10 hqj10
      subst hqj10
      obtain ⟨b12, e_b12, h⟩ := bnd h
      obtain rfl := Option.some.inj h
      exact g_zreturn hX (gb_some e_b12).1 (Nat.le_refl _) (Nat.le_refl _) dX3_hasName_42
    replace h := hpj10
    clear hpj10
    refine g_icmp_eq hX (pc := 34) dX3_hasName_34 (tgt := 41) (by decide) (fun c9 => ?_) (fun c9 => ?_)
    · replace h := ifP c9 h
      refine g_iconst hX (pc := 41) (v := 0) dX3_hasName_41 (by decide) ?_
      exact Kj10 0 (Option.some.inj h)
    · replace h := ifN c9 h
      refine g_iconst hX (pc := 37) (v := 1) dX3_hasName_37 (by decide) ?_
      refine g_goto hX (pc := 38) (tgt := 42) dX3_hasName_38 (by decide) ?_
      exact Kj10 1 (Option.some.inj h)
  obtain ⟨kl2, hkl2⟩ := lp_ex hpl2
  clear hpl2 h
  have Ll2 : ∀ k : Nat, ∀ (s1 : Int32), lpN k (b_X3_hasName_2 o0 x1 I) s1 = some p6 → GW E X (QX E X 0 0 (some (.int rr)) z J I) 3 2 [(0, .ref o0), (1, .int x1), (2, .int s1)] [] z J I 0 0 := by
    intro k
    induction k with
    | zero => intro s1 h; cases h
    | succ k ihl2 =>
      intro s1 h
      obtain ⟨wl2, h, hwl2⟩ := lpN_s h
      unfold b_X3_hasName_2 at h
      try dsimp only at h
      refine g_iload_n hX (pc := 2) (i := 2) dX3_hasName_2 rfl 2 rfl ?_
      refine g_aload_n hX (pc := 3) (i := 0) dX3_hasName_3 rfl 0 rfl ?_
      refine gf3_10 hX (pc := 4) ho0 fl_X3_44 dX3_hasName_4 ?_
      refine g_icmp_ge hX (pc := 7) dX3_hasName_7 (tgt := 28) (by decide) (fun c3 => ?_) (fun c3 => ?_)
      · replace h := ifP c3 h
        refine g_aload_n hX (pc := 10) (i := 0) dX3_hasName_10 rfl 0 rfl ?_
        refine gf3_11 hX (pc := 11) ho0 fl_X3_47 dX3_hasName_11 ?_
        refine g_iload_n hX (pc := 14) (i := 2) dX3_hasName_14 rfl 2 rfl ?_
        obtain ⟨v4, e_v4, h⟩ := bnd h
        refine g_ialoadE hX (pc := 15) (s3_11 ho0).1 (s3_11 ho0).2.1 (s3_11 ho0).2.2.1 e_v4 dX3_hasName_15 ?_
        refine g_iload_n hX (pc := 16) (i := 1) dX3_hasName_16 rfl 1 rfl ?_
        refine g_icmp_ne hX (pc := 17) dX3_hasName_17 (tgt := 22) (by decide) (fun c5 => ?_) (fun c5 => ?_)
        · replace h := ifP c5 h
          refine g_iconst hX (pc := 20) (v := 1) dX3_hasName_20 (by decide) ?_
          obtain rfl := Option.some.inj h
          replace h := KRl2 _ hwl2
          obtain rfl := Option.some.inj h
          exact g_zreturn hX (Or.inr rfl) (Nat.le_refl _) (Nat.le_refl _) dX3_hasName_21
        · replace h := ifN c5 h
          refine g_iinc hX (pc := 22) (i := 2) (v := s1 + 1) (ls' := [(0, .ref o0), (1, .int x1), (2, .int (s1 + 1))]) 2 [1, 2, 0] dX3_hasName_22 rfl (by rfl) (by decide) rfl ?_
          refine g_goto hX (pc := 25) (tgt := 2) dX3_hasName_25 (by decide) ?_
          obtain rfl := Option.some.inj h
          exact ihl2 (s1 + 1) hwl2
      · replace h := ifN c3 h
        obtain rfl := Option.some.inj h
        exact Kl2 s1 hwl2
  exact Ll2 kl2 0 hkl2
noncomputable def f_X3_addItem (o0 : Nat) (x1 : Int32) (x2 : Int32) (x3 : Int32) (I : MI) : Option (MI) :=
  (if (I o0 6) < 10 then
    (wr 10 I (o0 + 1) (I o0 6) x1).bind fun I3 =>
    (wr 10 I3 (o0 + 2) (I3 o0 6) x2).bind fun I4 =>
    (wr 10 I4 (o0 + 3) (I4 o0 6) x3).bind fun I5 =>
    (wf I5 o0 6 ((I5 o0 6) + 1)).bind fun I6 =>
    some I6
  else
    some I).bind fun (p7 : MI) =>
  some p7
theorem nm_X3_addItem : yX3_addItem.cls ≠ "java/lang/invoke/MethodHandle" ∧ yX3_addItem.cls ≠ "java/lang/invoke/VarHandle" ∧ (parseMethodDescriptor yX3_addItem.desc).map (fun d => d.parameters.length) = some 3 := by decide +kernel
set_option maxRecDepth 100000 in
set_option maxHeartbeats 4000000 in
theorem ct_X3_addItem {E : Ev} {d : Nat} {z : Sh} {J : MJ} {I : MI} {o0 : Nat} {x1 : Int32} {x2 : Int32} {x3 : Int32} {Iz : MI} (ho0 : oX3 z o0) (h : f_X3_addItem o0 x1 x2 x3 I = some Iz) : Ct E (d + 0) yX3_addItem cX3_addItem 4 none 0 0 [.ref o0, .int x1, .int x2, .int x3] z J I none z J Iz := by
  unfold f_X3_addItem at h
  refine Ct.of (own := RX3) (ls := [(0, .ref o0), (1, .int x1), (2, .int x2), (3, .int x3)]) (by decide) rfl (Nat.le_of_ble_eq_true rfl) rfl ?_
  intro X hr0 hnm hX
  refine g_aload_n hX (pc := 0) (i := 0) dX3_addItem_0 rfl 0 rfl ?_
  refine gf3_6 hX (pc := 1) ho0 fl_X3_31 dX3_addItem_1 ?_
  refine g_bipush hX (pc := 4) (v := 10) dX3_addItem_4 (by decide) ?_
  obtain ⟨p7, hpj2, h⟩ := bnd h
  have Kj2 : ∀ qj2 : MI, qj2 = p7 → GW E X (QX E X 0 0 none z J Iz) 4 49 [(0, .ref o0), (1, .int x1), (2, .int x2), (3, .int x3)] [] z J qj2 0 0 := by
    intro qj2 hqj2
    subst hqj2
    obtain rfl := Option.some.inj h
    exact g_return hX (Nat.le_refl _) (Nat.le_refl _) dX3_addItem_49
  replace h := hpj2
  clear hpj2
  refine g_icmp_ge hX (pc := 6) dX3_addItem_6 (tgt := 49) (by decide) (fun c1 => ?_) (fun c1 => ?_)
  · replace h := ifP c1 h
    refine g_aload_n hX (pc := 9) (i := 0) dX3_addItem_9 rfl 0 rfl ?_
    refine gf3_7 hX (pc := 10) ho0 fl_X3_34 dX3_addItem_10 ?_
    refine g_aload_n hX (pc := 13) (i := 0) dX3_addItem_13 rfl 0 rfl ?_
    refine gf3_6 hX (pc := 14) ho0 fl_X3_31 dX3_addItem_14 ?_
    refine g_iload_n hX (pc := 17) (i := 1) dX3_addItem_17 rfl 1 rfl ?_
    obtain ⟨I3, e_I3, h⟩ := bnd h
    refine g_iastoreE hX (pc := 18) (s3_7 ho0).1 (s3_7 ho0).2.1 (s3_7 ho0).2.2.1 e_I3 dX3_addItem_18 ?_
    refine g_aload_n hX (pc := 19) (i := 0) dX3_addItem_19 rfl 0 rfl ?_
    refine gf3_8 hX (pc := 20) ho0 fl_X3_38 dX3_addItem_20 ?_
    refine g_aload_n hX (pc := 23) (i := 0) dX3_addItem_23 rfl 0 rfl ?_
    refine gf3_6 hX (pc := 24) ho0 fl_X3_31 dX3_addItem_24 ?_
    refine g_iload_n hX (pc := 27) (i := 2) dX3_addItem_27 rfl 2 rfl ?_
    obtain ⟨I4, e_I4, h⟩ := bnd h
    refine g_iastoreE hX (pc := 28) (s3_8 ho0).1 (s3_8 ho0).2.1 (s3_8 ho0).2.2.1 e_I4 dX3_addItem_28 ?_
    refine g_aload_n hX (pc := 29) (i := 0) dX3_addItem_29 rfl 0 rfl ?_
    refine gf3_9 hX (pc := 30) ho0 fl_X3_41 dX3_addItem_30 ?_
    refine g_aload_n hX (pc := 33) (i := 0) dX3_addItem_33 rfl 0 rfl ?_
    refine gf3_6 hX (pc := 34) ho0 fl_X3_31 dX3_addItem_34 ?_
    refine g_iload_n hX (pc := 37) (i := 3) dX3_addItem_37 rfl 3 rfl ?_
    obtain ⟨I5, e_I5, h⟩ := bnd h
    refine g_iastoreE hX (pc := 38) (s3_9 ho0).1 (s3_9 ho0).2.1 (s3_9 ho0).2.2.1 e_I5 dX3_addItem_38 ?_
    refine g_aload_n hX (pc := 39) (i := 0) dX3_addItem_39 rfl 0 rfl ?_
    refine g_dup hX (pc := 40) dX3_addItem_40 rfl ?_
    refine gf3_6 hX (pc := 41) ho0 fl_X3_31 dX3_addItem_41 ?_
    refine g_iconst hX (pc := 44) (v := 1) dX3_addItem_44 (by decide) ?_
    refine g_iadd hX (pc := 45) dX3_addItem_45 ?_
    obtain ⟨I6, e_I6, h⟩ := bnd h
    refine pf3_6 hX (pc := 46) ho0 fl_X3_31 dX3_addItem_46 e_I6 ?_
    exact Kj2 I6 (Option.some.inj h)
  · replace h := ifN c1 h
    exact Kj2 I (Option.some.inj h)
noncomputable def b_X3_addOrder_35 (o0 : Nat) (x2 : Int32) (s : Int32 × MI) : Option ((Int32 × MI) ⊕ (Int32 × MI)) :=
  if 0 < s.1 then
    (rd 16 (s.2 (o0 + 9)) (s.1 - 1)).bind fun v8 =>
    (rd 16 (s.2 (o0 + 5)) v8).bind fun v9 =>
    if x2 < v9 then
      (rd 16 (s.2 (o0 + 9)) (s.1 - 1)).bind fun v11 =>
      (wr 16 s.2 (o0 + 9) s.1 v11).bind fun I12 =>
      some (.inl ((s.1 + (-1), I12)))
    else
      some (.inr ((s.1, s.2)))
  else
    some (.inr ((s.1, s.2)))
noncomputable def f_X3_addOrder (o0 : Nat) (x1 : Int32) (x2 : Int32) (I : MI) : Option (MI) :=
  if (I o0 10) < 16 then
    (wr 16 I (o0 + 4) (I o0 10) x1).bind fun I2 =>
    (wr 16 I2 (o0 + 5) (I2 o0 10) x2).bind fun I3 =>
    (lp (b_X3_addOrder_35 o0 x2) ((I3 o0 10, I3))).bind fun p13 =>
    (wr 16 p13.2 (o0 + 9) p13.1 (p13.2 o0 10)).bind fun I14 =>
    (wf I14 o0 10 ((I14 o0 10) + 1)).bind fun I15 =>
    some I15
  else
    some I
theorem nm_X3_addOrder : yX3_addOrder.cls ≠ "java/lang/invoke/MethodHandle" ∧ yX3_addOrder.cls ≠ "java/lang/invoke/VarHandle" ∧ (parseMethodDescriptor yX3_addOrder.desc).map (fun d => d.parameters.length) = some 2 := by decide +kernel
set_option maxRecDepth 100000 in
set_option maxHeartbeats 4000000 in
theorem ct_X3_addOrder {E : Ev} {d : Nat} {z : Sh} {J : MJ} {I : MI} {o0 : Nat} {x1 : Int32} {x2 : Int32} {Iz : MI} (ho0 : oX3 z o0) (h : f_X3_addOrder o0 x1 x2 I = some Iz) : Ct E (d + 0) yX3_addOrder cX3_addOrder 4 none 0 0 [.ref o0, .int x1, .int x2] z J I none z J Iz := by
  unfold f_X3_addOrder at h
  refine Ct.of (own := RX3) (ls := [(0, .ref o0), (1, .int x1), (2, .int x2)]) (by decide) rfl (Nat.le_of_ble_eq_true rfl) rfl ?_
  intro X hr0 hnm hX
  refine g_aload_n hX (pc := 0) (i := 0) dX3_addOrder_0 rfl 0 rfl ?_
  refine gf3_10 hX (pc := 1) ho0 fl_X3_44 dX3_addOrder_1 ?_
  refine g_bipush hX (pc := 4) (v := 16) dX3_addOrder_4 (by decide) ?_
  refine g_icmp_lt hX (pc := 6) dX3_addOrder_6 (tgt := 10) (by decide) (fun c1 => ?_) (fun c1 => ?_)
  · replace h := ifP c1 h
    refine g_aload_n hX (pc := 10) (i := 0) dX3_addOrder_10 rfl 0 rfl ?_
    refine gf3_11 hX (pc := 11) ho0 fl_X3_47 dX3_addOrder_11 ?_
    refine g_aload_n hX (pc := 14) (i := 0) dX3_addOrder_14 rfl 0 rfl ?_
    refine gf3_10 hX (pc := 15) ho0 fl_X3_44 dX3_addOrder_15 ?_
    refine g_iload_n hX (pc := 18) (i := 1) dX3_addOrder_18 rfl 1 rfl ?_
    obtain ⟨I2, e_I2, h⟩ := bnd h
    refine g_iastoreE hX (pc := 19) (s3_11 ho0).1 (s3_11 ho0).2.1 (s3_11 ho0).2.2.1 e_I2 dX3_addOrder_19 ?_
    refine g_aload_n hX (pc := 20) (i := 0) dX3_addOrder_20 rfl 0 rfl ?_
    refine gf3_12 hX (pc := 21) ho0 fl_X3_50 dX3_addOrder_21 ?_
    refine g_aload_n hX (pc := 24) (i := 0) dX3_addOrder_24 rfl 0 rfl ?_
    refine gf3_10 hX (pc := 25) ho0 fl_X3_44 dX3_addOrder_25 ?_
    refine g_iload_n hX (pc := 28) (i := 2) dX3_addOrder_28 rfl 2 rfl ?_
    obtain ⟨I3, e_I3, h⟩ := bnd h
    refine g_iastoreE hX (pc := 29) (s3_12 ho0).1 (s3_12 ho0).2.1 (s3_12 ho0).2.2.1 e_I3 dX3_addOrder_29 ?_
    refine g_aload_n hX (pc := 30) (i := 0) dX3_addOrder_30 rfl 0 rfl ?_
    refine gf3_10 hX (pc := 31) ho0 fl_X3_44 dX3_addOrder_31 ?_
    refine g_istore_n hX (pc := 34) (i := 3) (ls' := [(0, .ref o0), (1, .int x1), (2, .int x2), (3, .int (I3 o0 10))]) [1, 2, 3, 0] dX3_addOrder_34 rfl (by decide) rfl ?_
    obtain ⟨p13, hpl6, h⟩ := bnd h
    have Kl6 : ∀ ql6 : Int32 × MI, ql6 = p13 → GW E X (QX E X 0 0 none z J Iz) 4 76 [(0, .ref o0), (1, .int x1), (2, .int x2), (3, .int ql6.1)] [] z J ql6.2 0 0 := by
      intro ql6 hql6
      subst hql6
      refine g_aload_n hX (pc := 76) (i := 0) dX3_addOrder_76 rfl 0 rfl ?_
      refine gf3_16 hX (pc := 77) ho0 fl_X3_62 dX3_addOrder_77 ?_
      refine g_iload_n hX (pc := 80) (i := 3) dX3_addOrder_80 rfl 3 rfl ?_
      refine g_aload_n hX (pc := 81) (i := 0) dX3_addOrder_81 rfl 0 rfl ?_
      refine gf3_10 hX (pc := 82) ho0 fl_X3_44 dX3_addOrder_82 ?_
      obtain ⟨I14, e_I14, h⟩ := bnd h
      refine g_iastoreE hX (pc := 85) (s3_16 ho0).1 (s3_16 ho0).2.1 (s3_16 ho0).2.2.1 e_I14 dX3_addOrder_85 ?_
      refine g_aload_n hX (pc := 86) (i := 0) dX3_addOrder_86 rfl 0 rfl ?_
      refine g_dup hX (pc := 87) dX3_addOrder_87 rfl ?_
      refine gf3_10 hX (pc := 88) ho0 fl_X3_44 dX3_addOrder_88 ?_
      refine g_iconst hX (pc := 91) (v := 1) dX3_addOrder_91 (by decide) ?_
      refine g_iadd hX (pc := 92) dX3_addOrder_92 ?_
      obtain ⟨I15, e_I15, h⟩ := bnd h
      refine pf3_10 hX (pc := 93) ho0 fl_X3_44 dX3_addOrder_93 e_I15 ?_
      obtain rfl := Option.some.inj h
      exact g_return hX (Nat.le_refl _) (Nat.le_refl _) dX3_addOrder_96
    obtain ⟨kl6, hkl6⟩ := lp_ex hpl6
    clear hpl6 h
    have Ll6 : ∀ k : Nat, ∀ (s4 : Int32) (I5 : MI), lpN k (b_X3_addOrder_35 o0 x2) ((s4, I5)) = some p13 → GW E X (QX E X 0 0 none z J Iz) 4 35 [(0, .ref o0), (1, .int x1), (2, .int x2), (3, .int s4)] [] z J I5 0 0 := by
      intro k
      induction k with
      | zero => intro s4 I5 h; cases h
      | succ k ihl6 =>
        intro s4 I5 h
        obtain ⟨wl6, h, hwl6⟩ := lpN_s h
        unfold b_X3_addOrder_35 at h
        try dsimp only at h
        refine g_iload_n hX (pc := 35) (i := 3) dX3_addOrder_35 rfl 3 rfl ?_
        refine g_if_le hX (pc := 36) dX3_addOrder_36 (tgt := 76) (by decide) (fun c7 => ?_) (fun c7 => ?_)
        · replace h := ifP c7 h
          refine g_aload_n hX (pc := 39) (i := 0) dX3_addOrder_39 rfl 0 rfl ?_
          refine gf3_12 hX (pc := 40) ho0 fl_X3_50 dX3_addOrder_40 ?_
          refine g_aload_n hX (pc := 43) (i := 0) dX3_addOrder_43 rfl 0 rfl ?_
          refine gf3_16 hX (pc := 44) ho0 fl_X3_62 dX3_addOrder_44 ?_
          refine g_iload_n hX (pc := 47) (i := 3) dX3_addOrder_47 rfl 3 rfl ?_
          refine g_iconst hX (pc := 48) (v := 1) dX3_addOrder_48 (by decide) ?_
          refine g_isub hX (pc := 49) dX3_addOrder_49 ?_
          obtain ⟨v8, e_v8, h⟩ := bnd h
          refine g_ialoadE hX (pc := 50) (s3_16 ho0).1 (s3_16 ho0).2.1 (s3_16 ho0).2.2.1 e_v8 dX3_addOrder_50 ?_
          obtain ⟨v9, e_v9, h⟩ := bnd h
          refine g_ialoadE hX (pc := 51) (s3_12 ho0).1 (s3_12 ho0).2.1 (s3_12 ho0).2.2.1 e_v9 dX3_addOrder_51 ?_
          refine g_iload_n hX (pc := 52) (i := 2) dX3_addOrder_52 rfl 2 rfl ?_
          refine g_icmp_le hX (pc := 53) dX3_addOrder_53 (tgt := 76) (by decide) (fun c10 => ?_) (fun c10 => ?_)
          · replace h := ifP c10 h
            refine g_aload_n hX (pc := 56) (i := 0) dX3_addOrder_56 rfl 0 rfl ?_
            refine gf3_16 hX (pc := 57) ho0 fl_X3_62 dX3_addOrder_57 ?_
            refine g_iload_n hX (pc := 60) (i := 3) dX3_addOrder_60 rfl 3 rfl ?_
            refine g_aload_n hX (pc := 61) (i := 0) dX3_addOrder_61 rfl 0 rfl ?_
            refine gf3_16 hX (pc := 62) ho0 fl_X3_62 dX3_addOrder_62 ?_
            refine g_iload_n hX (pc := 65) (i := 3) dX3_addOrder_65 rfl 3 rfl ?_
            refine g_iconst hX (pc := 66) (v := 1) dX3_addOrder_66 (by decide) ?_
            refine g_isub hX (pc := 67) dX3_addOrder_67 ?_
            obtain ⟨v11, e_v11, h⟩ := bnd h
            refine g_ialoadE hX (pc := 68) (s3_16 ho0).1 (s3_16 ho0).2.1 (s3_16 ho0).2.2.1 e_v11 dX3_addOrder_68 ?_
            obtain ⟨I12, e_I12, h⟩ := bnd h
            refine g_iastoreE hX (pc := 69) (s3_16 ho0).1 (s3_16 ho0).2.1 (s3_16 ho0).2.2.1 e_I12 dX3_addOrder_69 ?_
            refine g_iinc hX (pc := 70) (i := 3) (v := s4 + (-1)) (ls' := [(0, .ref o0), (1, .int x1), (2, .int x2), (3, .int (s4 + (-1)))]) 3 [1, 2, 3, 0] dX3_addOrder_70 rfl (by rfl) (by decide) rfl ?_
            refine g_goto hX (pc := 73) (tgt := 35) dX3_addOrder_73 (by decide) ?_
            obtain rfl := Option.some.inj h
            exact ihl6 (s4 + (-1)) I12 hwl6
          · replace h := ifN c10 h
            obtain rfl := Option.some.inj h
            exact Kl6 ((s4, I5)) hwl6
        · replace h := ifN c7 h
          obtain rfl := Option.some.inj h
          exact Kl6 ((s4, I5)) hwl6
    exact Ll6 kl6 (I3 o0 10) I3 hkl6
  · replace h := ifN c1 h
    obtain rfl := Option.some.inj h
    exact g_return hX (Nat.le_refl _) (Nat.le_refl _) dX3_addOrder_9
noncomputable def f_X3_addUnits (o0 : Nat) (x1 : Int32) (x2 : Int32) (x3 : Int32) (I : MI) : Option (MI) :=
  (f_X3_isOrder o0 x1 I).bind fun r1 =>
  (if r1 = 0 then
    some I
  else
    (f_X3_isItem o0 x2 I).bind fun r4 =>
    if r4 = 0 then
      some I
    else
      (f_X4_cell x1 x2).bind fun r6 =>
      (wr 160 I (o0 + 6) r6 x3).bind fun I7 =>
      (rd 16 (I7 (o0 + 7)) x1).bind fun v8 =>
      (wr 16 I7 (o0 + 7) x1 (v8 + x3)).bind fun I9 =>
      (rd 16 (I9 (o0 + 8)) x1).bind fun v10 =>
      (wr 16 I9 (o0 + 8) x1 (v10 ||| ((1 : Int32) <<< (x2 &&& 31)))).bind fun I11 =>
      some I11).bind fun (p12 : MI) =>
  some p12
theorem nm_X3_addUnits : yX3_addUnits.cls ≠ "java/lang/invoke/MethodHandle" ∧ yX3_addUnits.cls ≠ "java/lang/invoke/VarHandle" ∧ (parseMethodDescriptor yX3_addUnits.desc).map (fun d => d.parameters.length) = some 3 := by decide +kernel
set_option maxRecDepth 100000 in
set_option maxHeartbeats 4000000 in
theorem ct_X3_addUnits {E : Ev} {d : Nat} {z : Sh} {J : MJ} {I : MI} {o0 : Nat} {x1 : Int32} {x2 : Int32} {x3 : Int32} {Iz : MI} (ho0 : oX3 z o0) (h : f_X3_addUnits o0 x1 x2 x3 I = some Iz) : Ct E (d + 1) yX3_addUnits cX3_addUnits 4 none 0 0 [.ref o0, .int x1, .int x2, .int x3] z J I none z J Iz := by
  unfold f_X3_addUnits at h
  refine Ct.of (own := RX3) (ls := [(0, .ref o0), (1, .int x1), (2, .int x2), (3, .int x3)]) (by decide) rfl (Nat.le_of_ble_eq_true rfl) rfl ?_
  intro X hr0 hnm hX
  refine g_aload_n hX (pc := 0) (i := 0) dX3_addUnits_0 rfl 0 rfl ?_
  refine g_iload_n hX (pc := 1) (i := 1) dX3_addUnits_1 rfl 1 rfl ?_
  obtain ⟨r1, e_r1, h⟩ := bnd h
  refine g_callVi hX (pc := 2) (d := d + 0) hr0 [.int x1] (c := 3) (ct_X3_isOrder (d := d + 0) ho0 e_r1) ho0.1.1 ho0.1.2 (by decide) rfl co_X3_isOrder ml_X3_75 im_X3_isOrder sl_X3_isOrder ini_X3 nm_X3_isOrder (by decide) ⟨Nat.le_refl _, Nat.le_refl _⟩ (Nat.le_refl _) (Nat.le_of_ble_eq_true rfl) rfl dX3_addUnits_2 ?_
  obtain ⟨p12, hpj3, h⟩ := bnd h
  have Kj3 : ∀ qj3 : MI, qj3 = p12 → GW E X (QX E X 0 0 none z J Iz) 4 49 [(0, .ref o0), (1, .int x1), (2, .int x2), (3, .int x3)] [] z J qj3 0 0 := by
    intro qj3 hqj3
    subst hqj3
    obtain rfl := Option.some.inj h
    exact g_return hX (Nat.le_refl _) (Nat.le_refl _) dX3_addUnits_49
  replace h := hpj3
  clear hpj3
  refine g_if_eq hX (pc := 5) dX3_addUnits_5 (tgt := 49) (by decide) (fun c2 => ?_) (fun c2 => ?_)
  · replace h := ifP c2 h
    exact Kj3 I (Option.some.inj h)
  · replace h := ifN c2 h
    refine g_aload_n hX (pc := 8) (i := 0) dX3_addUnits_8 rfl 0 rfl ?_
    refine g_iload_n hX (pc := 9) (i := 2) dX3_addUnits_9 rfl 2 rfl ?_
    obtain ⟨r4, e_r4, h⟩ := bnd h
    refine g_callVi hX (pc := 10) (d := d + 0) hr0 [.int x2] (c := 3) (ct_X3_isItem (d := d + 0) ho0 e_r4) ho0.1.1 ho0.1.2 (by decide) rfl co_X3_isItem ml_X3_79 im_X3_isItem sl_X3_isItem ini_X3 nm_X3_isItem (by decide) ⟨Nat.le_refl _, Nat.le_refl _⟩ (Nat.le_refl _) (Nat.le_of_ble_eq_true rfl) rfl dX3_addUnits_10 ?_
    refine g_if_eq hX (pc := 13) dX3_addUnits_13 (tgt := 49) (by decide) (fun c5 => ?_) (fun c5 => ?_)
    · replace h := ifP c5 h
      exact Kj3 I (Option.some.inj h)
    · replace h := ifN c5 h
      refine g_aload_n hX (pc := 16) (i := 0) dX3_addUnits_16 rfl 0 rfl ?_
      refine gf3_13 hX (pc := 17) ho0 fl_X3_53 dX3_addUnits_17 ?_
      refine g_iload_n hX (pc := 20) (i := 1) dX3_addUnits_20 rfl 1 rfl ?_
      refine g_iload_n hX (pc := 21) (i := 2) dX3_addUnits_21 rfl 2 rfl ?_
      obtain ⟨r6, e_r6, h⟩ := bnd h
      refine g_callSNi hX (pc := 22) (d := d + 0) hr0 [.int x1, .int x2] (host := RX4) (ct_X4_cell (d := d + 0)  e_r6) co_X4_cell (by decide) sta_X4_cell ini_X4 nm_X4_cell (by decide) ⟨Nat.le_refl _, Nat.le_refl _⟩ (Nat.le_refl _) (Nat.le_of_ble_eq_true rfl) rfl dX3_addUnits_22 ?_
      refine g_iload_n hX (pc := 25) (i := 3) dX3_addUnits_25 rfl 3 rfl ?_
      obtain ⟨I7, e_I7, h⟩ := bnd h
      refine g_iastoreE hX (pc := 26) (s3_13 ho0).1 (s3_13 ho0).2.1 (s3_13 ho0).2.2.1 e_I7 dX3_addUnits_26 ?_
      refine g_aload_n hX (pc := 27) (i := 0) dX3_addUnits_27 rfl 0 rfl ?_
      refine gf3_14 hX (pc := 28) ho0 fl_X3_56 dX3_addUnits_28 ?_
      refine g_iload_n hX (pc := 31) (i := 1) dX3_addUnits_31 rfl 1 rfl ?_
      refine g_dup2 hX (pc := 32) dX3_addUnits_32 rfl rfl ?_
      obtain ⟨v8, e_v8, h⟩ := bnd h
      refine g_ialoadE hX (pc := 33) (s3_14 ho0).1 (s3_14 ho0).2.1 (s3_14 ho0).2.2.1 e_v8 dX3_addUnits_33 ?_
      refine g_iload_n hX (pc := 34) (i := 3) dX3_addUnits_34 rfl 3 rfl ?_
      refine g_iadd hX (pc := 35) dX3_addUnits_35 ?_
      obtain ⟨I9, e_I9, h⟩ := bnd h
      refine g_iastoreE hX (pc := 36) (s3_14 ho0).1 (s3_14 ho0).2.1 (s3_14 ho0).2.2.1 e_I9 dX3_addUnits_36 ?_
      refine g_aload_n hX (pc := 37) (i := 0) dX3_addUnits_37 rfl 0 rfl ?_
      refine gf3_15 hX (pc := 38) ho0 fl_X3_59 dX3_addUnits_38 ?_
      refine g_iload_n hX (pc := 41) (i := 1) dX3_addUnits_41 rfl 1 rfl ?_
      refine g_dup2 hX (pc := 42) dX3_addUnits_42 rfl rfl ?_
      obtain ⟨v10, e_v10, h⟩ := bnd h
      refine g_ialoadE hX (pc := 43) (s3_15 ho0).1 (s3_15 ho0).2.1 (s3_15 ho0).2.2.1 e_v10 dX3_addUnits_43 ?_
      refine g_iconst hX (pc := 44) (v := 1) dX3_addUnits_44 (by decide) ?_
      refine g_iload_n hX (pc := 45) (i := 2) dX3_addUnits_45 rfl 2 rfl ?_
      refine g_ishl hX (pc := 46) dX3_addUnits_46 ?_
      refine g_ior hX (pc := 47) dX3_addUnits_47 ?_
      obtain ⟨I11, e_I11, h⟩ := bnd h
      refine g_iastoreE hX (pc := 48) (s3_15 ho0).1 (s3_15 ho0).2.1 (s3_15 ho0).2.2.1 e_I11 dX3_addUnits_48 ?_
      exact Kj3 I11 (Option.some.inj h)
noncomputable def b_X3_itemsOfAll_4 (o0 : Nat) (x1 : Int32) (I : MI) (s : Int32 × Int32) : Option ((Int32 × Int32) ⊕ (Int32 × Int32)) :=
  if s.2 < (I o0 10) then
    (f_X4_hasBit x1 s.2).bind fun r5 =>
    (if r5 = 0 then
      some s.1
    else
      (rd 16 (I (o0 + 8)) s.2).bind fun v8 =>
      some (s.1 ||| v8)).bind fun (p9 : Int32) =>
    some (.inl ((p9, s.2 + 1)))
  else
    some (.inr ((s.1, s.2)))
noncomputable def f_X3_itemsOfAll (o0 : Nat) (x1 : Int32) (I : MI) : Option (Int32) :=
  (lp (b_X3_itemsOfAll_4 o0 x1 I) ((0, 0))).bind fun p10 =>
  some p10.1
theorem nm_X3_itemsOfAll : yX3_itemsOfAll.cls ≠ "java/lang/invoke/MethodHandle" ∧ yX3_itemsOfAll.cls ≠ "java/lang/invoke/VarHandle" ∧ (parseMethodDescriptor yX3_itemsOfAll.desc).map (fun d => d.parameters.length) = some 1 := by decide +kernel
set_option maxRecDepth 100000 in
set_option maxHeartbeats 4000000 in
theorem ct_X3_itemsOfAll {E : Ev} {d : Nat} {z : Sh} {J : MJ} {I : MI} {o0 : Nat} {x1 : Int32} {rr : Int32} (ho0 : oX3 z o0) (h : f_X3_itemsOfAll o0 x1 I = some rr) : Ct E (d + 1) yX3_itemsOfAll cX3_itemsOfAll 4 (some .int) 0 0 [.ref o0, .int x1] z J I (some (.int rr)) z J I := by
  unfold f_X3_itemsOfAll at h
  refine Ct.of (own := RX3) (ls := [(0, .ref o0), (1, .int x1)]) (by decide) rfl (Nat.le_of_ble_eq_true rfl) rfl ?_
  intro X hr0 hnm hX
  refine g_iconst hX (pc := 0) (v := 0) dX3_itemsOfAll_0 (by decide) ?_
  refine g_istore_n hX (pc := 1) (i := 2) (ls' := [(0, .ref o0), (1, .int x1), (2, .int 0)]) [1, 2, 0] dX3_itemsOfAll_1 rfl (by decide) rfl ?_
  refine g_iconst hX (pc := 2) (v := 0) dX3_itemsOfAll_2 (by decide) ?_
  refine g_istore_n hX (pc := 3) (i := 3) (ls' := [(0, .ref o0), (1, .int x1), (2, .int 0), (3, .int 0)]) [1, 2, 3, 0] dX3_itemsOfAll_3 rfl (by decide) rfl ?_
  obtain ⟨p10, hpl3, h⟩ := bnd h
  have Kl3 : ∀ ql3 : Int32 × Int32, ql3 = p10 → GW E X (QX E X 0 0 (some (.int rr)) z J I) 4 35 [(0, .ref o0), (1, .int x1), (2, .int ql3.1), (3, .int ql3.2)] [] z J I 0 0 := by
    intro ql3 hql3
    subst hql3
    refine g_iload_n hX (pc := 35) (i := 2) dX3_itemsOfAll_35 rfl 2 rfl ?_
    obtain rfl := Option.some.inj h
    exact g_ireturn hX (Nat.le_refl _) (Nat.le_refl _) dX3_itemsOfAll_36
  obtain ⟨kl3, hkl3⟩ := lp_ex hpl3
  clear hpl3 h
  have Ll3 : ∀ k : Nat, ∀ (s1 : Int32) (s2 : Int32), lpN k (b_X3_itemsOfAll_4 o0 x1 I) ((s1, s2)) = some p10 → GW E X (QX E X 0 0 (some (.int rr)) z J I) 4 4 [(0, .ref o0), (1, .int x1), (2, .int s1), (3, .int s2)] [] z J I 0 0 := by
    intro k
    induction k with
    | zero => intro s1 s2 h; cases h
    | succ k ihl3 =>
      intro s1 s2 h
      obtain ⟨wl3, h, hwl3⟩ := lpN_s h
      unfold b_X3_itemsOfAll_4 at h
      try dsimp only at h
      refine g_iload_n hX (pc := 4) (i := 3) dX3_itemsOfAll_4 rfl 3 rfl ?_
      refine g_aload_n hX (pc := 5) (i := 0) dX3_itemsOfAll_5 rfl 0 rfl ?_
      refine gf3_10 hX (pc := 6) ho0 fl_X3_44 dX3_itemsOfAll_6 ?_
      refine g_icmp_ge hX (pc := 9) dX3_itemsOfAll_9 (tgt := 35) (by decide) (fun c4 => ?_) (fun c4 => ?_)
      · replace h := ifP c4 h
        refine g_iload_n hX (pc := 12) (i := 1) dX3_itemsOfAll_12 rfl 1 rfl ?_
        refine g_iload_n hX (pc := 13) (i := 3) dX3_itemsOfAll_13 rfl 3 rfl ?_
        obtain ⟨r5, e_r5, h⟩ := bnd h
        refine g_callSNi hX (pc := 14) (d := d + 0) hr0 [.int x1, .int s2] (host := RX4) (ct_X4_hasBit (d := d + 0)  e_r5) co_X4_hasBit (by decide) sta_X4_hasBit ini_X4 nm_X4_hasBit (by decide) ⟨Nat.le_refl _, Nat.le_refl _⟩ (Nat.le_refl _) (Nat.le_of_ble_eq_true rfl) rfl dX3_itemsOfAll_14 ?_
        obtain ⟨p9, hpj7, h⟩ := bnd h
        have Kj7 : ∀ qj7 : Int32, qj7 = p9 → GW E X (QX E X 0 0 (some (.int rr)) z J I) 4 29 [(0, .ref o0), (1, .int x1), (2, .int qj7), (3, .int s2)] [] z J I 0 0 := by
          intro qj7 hqj7
          subst hqj7
          refine g_iinc hX (pc := 29) (i := 3) (v := s2 + 1) (ls' := [(0, .ref o0), (1, .int x1), (2, .int qj7), (3, .int (s2 + 1))]) 3 [1, 2, 3, 0] dX3_itemsOfAll_29 rfl (by rfl) (by decide) rfl ?_
          refine g_goto hX (pc := 32) (tgt := 4) dX3_itemsOfAll_32 (by decide) ?_
          obtain rfl := Option.some.inj h
          exact ihl3 qj7 (s2 + 1) hwl3
        replace h := hpj7
        clear hpj7
        refine g_if_eq hX (pc := 17) dX3_itemsOfAll_17 (tgt := 29) (by decide) (fun c6 => ?_) (fun c6 => ?_)
        · replace h := ifP c6 h
          exact Kj7 s1 (Option.some.inj h)
        · replace h := ifN c6 h
          refine g_iload_n hX (pc := 20) (i := 2) dX3_itemsOfAll_20 rfl 2 rfl ?_
          refine g_aload_n hX (pc := 21) (i := 0) dX3_itemsOfAll_21 rfl 0 rfl ?_
          refine gf3_15 hX (pc := 22) ho0 fl_X3_59 dX3_itemsOfAll_22 ?_
          refine g_iload_n hX (pc := 25) (i := 3) dX3_itemsOfAll_25 rfl 3 rfl ?_
          obtain ⟨v8, e_v8, h⟩ := bnd h
          refine g_ialoadE hX (pc := 26) (s3_15 ho0).1 (s3_15 ho0).2.1 (s3_15 ho0).2.2.1 e_v8 dX3_itemsOfAll_26 ?_
          refine g_ior hX (pc := 27) dX3_itemsOfAll_27 ?_
          refine g_istore_n hX (pc := 28) (i := 2) (ls' := [(0, .ref o0), (1, .int x1), (2, .int (s1 ||| v8)), (3, .int s2)]) [1, 2, 0, 3] dX3_itemsOfAll_28 rfl (by decide) rfl ?_
          exact Kj7 (s1 ||| v8) (Option.some.inj h)
      · replace h := ifN c4 h
        obtain rfl := Option.some.inj h
        exact Kl3 ((s1, s2)) hwl3
  exact Ll3 kl3 0 0 hkl3
noncomputable def b_X3_earliest_2 (o0 : Nat) (x1 : Int32) (I : MI) (s : Int32) : Option ((Int32) ⊕ ((Int32) ⊕ (Int32))) :=
  if s < (I o0 10) then
    (rd 16 (I (o0 + 9)) s).bind fun v4 =>
    (f_X4_hasBit x1 v4).bind fun r5 =>
    if r5 = 0 then
      some (.inl (s + 1))
    else
      (rd 16 (I (o0 + 9)) s).bind fun v7 =>
      some (.inr (.inl v7))
  else
    some (.inr (.inr s))
noncomputable def f_X3_earliest (o0 : Nat) (x1 : Int32) (I : MI) : Option (Int32) :=
  (lp (b_X3_earliest_2 o0 x1 I) 0).bind fun p8 =>
  Sum.elim (fun rr => some rr) (fun q9 =>
    some ((-1))) p8
theorem nm_X3_earliest : yX3_earliest.cls ≠ "java/lang/invoke/MethodHandle" ∧ yX3_earliest.cls ≠ "java/lang/invoke/VarHandle" ∧ (parseMethodDescriptor yX3_earliest.desc).map (fun d => d.parameters.length) = some 1 := by decide +kernel
set_option maxRecDepth 100000 in
set_option maxHeartbeats 4000000 in
theorem ct_X3_earliest {E : Ev} {d : Nat} {z : Sh} {J : MJ} {I : MI} {o0 : Nat} {x1 : Int32} {rr : Int32} (ho0 : oX3 z o0) (h : f_X3_earliest o0 x1 I = some rr) : Ct E (d + 1) yX3_earliest cX3_earliest 3 (some .int) 0 0 [.ref o0, .int x1] z J I (some (.int rr)) z J I := by
  unfold f_X3_earliest at h
  refine Ct.of (own := RX3) (ls := [(0, .ref o0), (1, .int x1)]) (by decide) rfl (Nat.le_of_ble_eq_true rfl) rfl ?_
  intro X hr0 hnm hX
  refine g_iconst hX (pc := 0) (v := 0) dX3_earliest_0 (by decide) ?_
  refine g_istore_n hX (pc := 1) (i := 2) (ls' := [(0, .ref o0), (1, .int x1), (2, .int 0)]) [1, 2, 0] dX3_earliest_1 rfl (by decide) rfl ?_
  obtain ⟨p8, hpl2, h⟩ := bnd h
  have KRl2 : ∀ rl2 : Int32, Sum.inl rl2 = p8 → some rl2 = some rr := by intro rl2 hrl2; subst hrl2; exact h
  have Kl2 : ∀ q9 : Int32, Sum.inr q9 = p8 → GW E X (QX E X 0 0 (some (.int rr)) z J I) 3 36 [(0, .ref o0), (1, .int x1), (2, .int q9)] [] z J I 0 0 := by
    intro q9 hql2
    subst hql2
    refine g_iconst hX (pc := 36) (v := (-1)) dX3_earliest_36 (by decide) ?_
    obtain rfl := Option.some.inj h
    exact g_ireturn hX (Nat.le_refl _) (Nat.le_refl _) dX3_earliest_37
  obtain ⟨kl2, hkl2⟩ := lp_ex hpl2
  clear hpl2 h
  have Ll2 : ∀ k : Nat, ∀ (s1 : Int32), lpN k (b_X3_earliest_2 o0 x1 I) s1 = some p8 → GW E X (QX E X 0 0 (some (.int rr)) z J I) 3 2 [(0, .ref o0), (1, .int x1), (2, .int s1)] [] z J I 0 0 := by
    intro k
    induction k with
    | zero => intro s1 h; cases h
    | succ k ihl2 =>
      intro s1 h
      obtain ⟨wl2, h, hwl2⟩ := lpN_s h
      unfold b_X3_earliest_2 at h
      try dsimp only at h
      refine g_iload_n hX (pc := 2) (i := 2) dX3_earliest_2 rfl 2 rfl ?_
      refine g_aload_n hX (pc := 3) (i := 0) dX3_earliest_3 rfl 0 rfl ?_
      refine gf3_10 hX (pc := 4) ho0 fl_X3_44 dX3_earliest_4 ?_
      refine g_icmp_ge hX (pc := 7) dX3_earliest_7 (tgt := 36) (by decide) (fun c3 => ?_) (fun c3 => ?_)
      · replace h := ifP c3 h
        refine g_iload_n hX (pc := 10) (i := 1) dX3_earliest_10 rfl 1 rfl ?_
        refine g_aload_n hX (pc := 11) (i := 0) dX3_earliest_11 rfl 0 rfl ?_
        refine gf3_16 hX (pc := 12) ho0 fl_X3_62 dX3_earliest_12 ?_
        refine g_iload_n hX (pc := 15) (i := 2) dX3_earliest_15 rfl 2 rfl ?_
        obtain ⟨v4, e_v4, h⟩ := bnd h
        refine g_ialoadE hX (pc := 16) (s3_16 ho0).1 (s3_16 ho0).2.1 (s3_16 ho0).2.2.1 e_v4 dX3_earliest_16 ?_
        obtain ⟨r5, e_r5, h⟩ := bnd h
        refine g_callSNi hX (pc := 17) (d := d + 0) hr0 [.int x1, .int v4] (host := RX4) (ct_X4_hasBit (d := d + 0)  e_r5) co_X4_hasBit (by decide) sta_X4_hasBit ini_X4 nm_X4_hasBit (by decide) ⟨Nat.le_refl _, Nat.le_refl _⟩ (Nat.le_refl _) (Nat.le_of_ble_eq_true rfl) rfl dX3_earliest_17 ?_
        refine g_if_eq hX (pc := 20) dX3_earliest_20 (tgt := 30) (by decide) (fun c6 => ?_) (fun c6 => ?_)
        · replace h := ifP c6 h
          refine g_iinc hX (pc := 30) (i := 2) (v := s1 + 1) (ls' := [(0, .ref o0), (1, .int x1), (2, .int (s1 + 1))]) 2 [1, 2, 0] dX3_earliest_30 rfl (by rfl) (by decide) rfl ?_
          refine g_goto hX (pc := 33) (tgt := 2) dX3_earliest_33 (by decide) ?_
          obtain rfl := Option.some.inj h
          exact ihl2 (s1 + 1) hwl2
        · replace h := ifN c6 h
          refine g_aload_n hX (pc := 23) (i := 0) dX3_earliest_23 rfl 0 rfl ?_
          refine gf3_16 hX (pc := 24) ho0 fl_X3_62 dX3_earliest_24 ?_
          refine g_iload_n hX (pc := 27) (i := 2) dX3_earliest_27 rfl 2 rfl ?_
          obtain ⟨v7, e_v7, h⟩ := bnd h
          refine g_ialoadE hX (pc := 28) (s3_16 ho0).1 (s3_16 ho0).2.1 (s3_16 ho0).2.2.1 e_v7 dX3_earliest_28 ?_
          obtain rfl := Option.some.inj h
          replace h := KRl2 _ hwl2
          obtain rfl := Option.some.inj h
          exact g_ireturn hX (Nat.le_refl _) (Nat.le_refl _) dX3_earliest_29
      · replace h := ifN c3 h
        obtain rfl := Option.some.inj h
        exact Kl2 s1 hwl2
  exact Ll2 kl2 0 hkl2
