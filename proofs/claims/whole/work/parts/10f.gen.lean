noncomputable def f_X4_wouldBe (o0 t0 u0 : Nat) (z : Sh) (I : MI) : Option (Int32 × Sh × MI) :=
  (nm (zR z o0 12)).bind fun q1 =>
  oc q1 (
    (nm (zNw z 0)).bind fun z3 =>
    (nm (clr 0 I (zs z))).bind fun I2 =>
    (gd (oX4 z3 o0 t0 u0)).bind fun g4 =>
    (f_X0_init (zs z) z3 I2).bind fun r6 =>
    (gd (zs z3 ≤ zs r6.1)).bind fun g7 =>
    (gd (oX4 r6.1 o0 t0 u0)).bind fun g8 =>
    (gd (raw r6.1 (zs z) 0)).bind fun g9 =>
    (gd (raw r6.1 o0 4)).bind fun g10 =>
    (nm (zSt r6.1 o0 12 (some (zs z)))).bind fun z11 =>
    (gd (oX4 z11 o0 t0 u0)).bind fun g12 =>
    (nm (zR z11 o0 12)).bind fun q13 =>
    oc q13 (
      none) (fun a14 =>
      (gd (oX0 z11 a14)).bind fun g15 =>
      (f_X0_copyFrom a14 (o0 + 24) r6.2).bind fun r16 =>
      (nm (zR z11 o0 12)).bind fun q17 =>
      oc q17 (
        none) (fun a18 =>
        (gd (oX0 z11 a18)).bind fun g19 =>
        (f_X0_takeFromBelt a18 t0 864 r16).bind fun r20 =>
        (nm (zR z11 o0 12)).bind fun q21 =>
        oc q21 (
          none) (fun a22 =>
          (gd (oX0 z11 a22)).bind fun g23 =>
          some ((r20.2 a22 7, z11, r20.2)))))) (fun a24 =>
    (gd (oX0 z a24)).bind fun g25 =>
    (nm (zR z o0 12)).bind fun q26 =>
    oc q26 (
      none) (fun a27 =>
      (gd (oX0 z a27)).bind fun g28 =>
      (f_X0_copyFrom a27 (o0 + 24) I).bind fun r29 =>
      (nm (zR z o0 12)).bind fun q30 =>
      oc q30 (
        none) (fun a31 =>
        (gd (oX0 z a31)).bind fun g32 =>
        (f_X0_takeFromBelt a31 t0 864 r29).bind fun r33 =>
        (nm (zR z o0 12)).bind fun q34 =>
        oc q34 (
          none) (fun a35 =>
          (gd (oX0 z a35)).bind fun g36 =>
          some ((r33.2 a35 7, z, r33.2))))))
theorem nm_X4_wouldBe : yX4_wouldBe.cls ≠ "java/lang/invoke/MethodHandle" ∧ yX4_wouldBe.cls ≠ "java/lang/invoke/VarHandle" ∧ (parseMethodDescriptor yX4_wouldBe.desc).map (fun d => d.parameters.length) = some 0 := by decide +kernel
set_option maxRecDepth 100000 in
set_option maxHeartbeats 4000000 in
theorem ct_X4_wouldBe {E : Ev} {d : Nat} {z : Sh} {J : MJ} {I : MI} {o0 t0 u0 : Nat} {rr : Int32} {zz : Sh} {Iz : MI} (ho0 : oX4 z o0 t0 u0) (h : f_X4_wouldBe o0 t0 u0 z I = some ((rr, zz, Iz))) : Ct E (d + 6) yX4_wouldBe cX4_wouldBe 1 (some .int) 10 2127 [.ref o0] z J I (some (.int rr)) zz J Iz := by
  unfold f_X4_wouldBe at h
  refine Ct.of (own := RX4) (ls := [(0, .ref o0)]) (by decide) rfl (Nat.le_of_ble_eq_true rfl) rfl ?_
  intro X hr0 hnm hX
  refine g_aload_n hX (pc := 0) (i := 0) dX4_wouldBe_0 rfl 0 rfl ?_
  obtain ⟨q1, e_q1, h⟩ := bnd h
  refine gfq4_12 hX (pc := 1) ho0 fl_X4_65 dX4_wouldBe_1 e_q1 ?_
  cases q1 with
  | none =>
    replace h := ocN h
    refine g_ifnonnullN hX (pc := 4) dX4_wouldBe_4 ?_
    refine g_aload_n hX (pc := 7) (i := 0) dX4_wouldBe_7 rfl 0 rfl ?_
    refine g_newO hX (pc := 8) hr0 0 (by decide) rfl rfl tyX0 tyX0_ok inl_X0 (J' := J) (I' := clr 0 I (zs z)) (df0 _ _ _) (fun _ _ => rfl) (fun b hb => clr_ne 0 _ hb) cl_X4_34 ins_X0 ini_X0 (by decide) dX4_wouldBe_8 ?_
    obtain ⟨z3, e_z3, h⟩ := bnd h
    refine g_nmz e_z3 ?_
    have hu5 := raw.nm e_z3 (raw.new (z := z) 0)
    obtain ⟨I2, e_I2, h⟩ := bnd h
    refine g_nmM e_I2 ?_
    obtain ⟨g4, e_g4, h⟩ := bnd h
    refine g_dup hX (pc := 11) dX4_wouldBe_11 rfl ?_
    obtain ⟨r6, e_r6, h⟩ := bnd h
    obtain ⟨g7, e_g7, h⟩ := bnd h
    refine g_callI hX (pc := 12) (d := d + 5) hr0 [] (ct_X0_init (d := d + 4) hu5 e_r6) rfl co_X0_init ml_X4_36 im_X0_init ini_X0 nm_X0_init (by decide) (by decide) (gd_some e_g7) (Nat.le_of_ble_eq_true rfl) rfl dX4_wouldBe_12 ?_
    obtain ⟨g8, e_g8, h⟩ := bnd h
    obtain ⟨g9, e_g9, h⟩ := bnd h
    obtain ⟨g10, e_g10, h⟩ := bnd h
    refine pr4_12 hX (pc := 15) (gd_some e_g10) fl_X4_65 dX4_wouldBe_15 ?_
    obtain ⟨z11, e_z11, h⟩ := bnd h
    refine g_nmz e_z11 ?_
    obtain ⟨g12, e_g12, h⟩ := bnd h
    refine g_aload_n hX (pc := 18) (i := 0) dX4_wouldBe_18 rfl 0 rfl ?_
    obtain ⟨q13, e_q13, h⟩ := bnd h
    refine gfq4_12 hX (pc := 19) (gd_some e_g12) fl_X4_65 dX4_wouldBe_19 e_q13 ?_
    cases q13 with
    | none =>
      replace h := ocN h
      cases h
    | some a14 =>
      replace h := ocS h
      obtain ⟨g15, e_g15, h⟩ := bnd h
      refine g_aload_n hX (pc := 22) (i := 0) dX4_wouldBe_22 rfl 0 rfl ?_
      refine gf4_5 hX (pc := 23) (gd_some e_g12) fl_X4_37 dX4_wouldBe_23 ?_
      obtain ⟨r16, e_r16, h⟩ := bnd h
      refine g_callVv hX (pc := 26) (d := d + 5) hr0 [.ref (o0 + 24)] (c := 0) (ct_X0_copyFrom (d := d + 4) (gd_some e_g15) (s4_5 (gd_some e_g12)).1 e_r16) (gd_some e_g15).1.1 (gd_some e_g15).1.2 (by decide) rfl co_X0_copyFrom ml_X4_241 im_X0_copyFrom sl_X0_copyFrom ini_X0 nm_X0_copyFrom (by decide) (by decide) (Nat.le_refl _) (Nat.le_of_ble_eq_true rfl) rfl dX4_wouldBe_26 ?_
      refine g_aload_n hX (pc := 29) (i := 0) dX4_wouldBe_29 rfl 0 rfl ?_
      obtain ⟨q17, e_q17, h⟩ := bnd h
      refine gfq4_12 hX (pc := 30) (gd_some e_g12) fl_X4_65 dX4_wouldBe_30 e_q17 ?_
      cases q17 with
      | none =>
        replace h := ocN h
        cases h
      | some a18 =>
        replace h := ocS h
        obtain ⟨g19, e_g19, h⟩ := bnd h
        refine g_aload_n hX (pc := 33) (i := 0) dX4_wouldBe_33 rfl 0 rfl ?_
        refine gf4_3 hX (pc := 34) (gd_some e_g12) fl_X4_27 dX4_wouldBe_34 ?_
        refine g_sipush hX (pc := 37) (v := 864) dX4_wouldBe_37 (by decide) ?_
        obtain ⟨r20, e_r20, h⟩ := bnd h
        refine g_callVi hX (pc := 40) (d := d + 5) hr0 [.ref t0, .int 864] (c := 0) (ct_X0_takeFromBelt (d := d + 0) (gd_some e_g19) (s4_3 (gd_some e_g12)).1 e_r20) (gd_some e_g19).1.1 (gd_some e_g19).1.2 (by decide) rfl co_X0_takeFromBelt ml_X4_183 im_X0_takeFromBelt sl_X0_takeFromBelt ini_X0 nm_X0_takeFromBelt (by decide) (by decide) (Nat.le_refl _) (Nat.le_of_ble_eq_true rfl) rfl dX4_wouldBe_40 ?_
        refine g_pop hX (pc := 43) dX4_wouldBe_43 rfl ?_
        refine g_aload_n hX (pc := 44) (i := 0) dX4_wouldBe_44 rfl 0 rfl ?_
        obtain ⟨q21, e_q21, h⟩ := bnd h
        refine gfq4_12 hX (pc := 45) (gd_some e_g12) fl_X4_65 dX4_wouldBe_45 e_q21 ?_
        cases q21 with
        | none =>
          replace h := ocN h
          cases h
        | some a22 =>
          replace h := ocS h
          obtain ⟨g23, e_g23, h⟩ := bnd h
          refine gf0_7 hX (pc := 48) (gd_some e_g23) fl_X4_215 dX4_wouldBe_48 ?_
          replace h := Option.some.inj h
          obtain ⟨rfl, hT0⟩ := Prod.mk.inj h
          obtain ⟨rfl, rfl⟩ := Prod.mk.inj hT0
          exact g_ireturn hX (by decide) (by decide) dX4_wouldBe_51
  | some a24 =>
    replace h := ocS h
    obtain ⟨g25, e_g25, h⟩ := bnd h
    refine g_ifnonnull hX (pc := 4) (tgt := 18) dX4_wouldBe_4 (by decide) ?_
    refine g_aload_n hX (pc := 18) (i := 0) dX4_wouldBe_18 rfl 0 rfl ?_
    obtain ⟨q26, e_q26, h⟩ := bnd h
    refine gfq4_12 hX (pc := 19) ho0 fl_X4_65 dX4_wouldBe_19 e_q26 ?_
    cases q26 with
    | none =>
      replace h := ocN h
      cases h
    | some a27 =>
      replace h := ocS h
      obtain ⟨g28, e_g28, h⟩ := bnd h
      refine g_aload_n hX (pc := 22) (i := 0) dX4_wouldBe_22 rfl 0 rfl ?_
      refine gf4_5 hX (pc := 23) ho0 fl_X4_37 dX4_wouldBe_23 ?_
      obtain ⟨r29, e_r29, h⟩ := bnd h
      refine g_callVv hX (pc := 26) (d := d + 5) hr0 [.ref (o0 + 24)] (c := 0) (ct_X0_copyFrom (d := d + 4) (gd_some e_g28) (s4_5 ho0).1 e_r29) (gd_some e_g28).1.1 (gd_some e_g28).1.2 (by decide) rfl co_X0_copyFrom ml_X4_241 im_X0_copyFrom sl_X0_copyFrom ini_X0 nm_X0_copyFrom (by decide) (by decide) (Nat.le_refl _) (Nat.le_of_ble_eq_true rfl) rfl dX4_wouldBe_26 ?_
      refine g_aload_n hX (pc := 29) (i := 0) dX4_wouldBe_29 rfl 0 rfl ?_
      obtain ⟨q30, e_q30, h⟩ := bnd h
      refine gfq4_12 hX (pc := 30) ho0 fl_X4_65 dX4_wouldBe_30 e_q30 ?_
      cases q30 with
      | none =>
        replace h := ocN h
        cases h
      | some a31 =>
        replace h := ocS h
        obtain ⟨g32, e_g32, h⟩ := bnd h
        refine g_aload_n hX (pc := 33) (i := 0) dX4_wouldBe_33 rfl 0 rfl ?_
        refine gf4_3 hX (pc := 34) ho0 fl_X4_27 dX4_wouldBe_34 ?_
        refine g_sipush hX (pc := 37) (v := 864) dX4_wouldBe_37 (by decide) ?_
        obtain ⟨r33, e_r33, h⟩ := bnd h
        refine g_callVi hX (pc := 40) (d := d + 5) hr0 [.ref t0, .int 864] (c := 0) (ct_X0_takeFromBelt (d := d + 0) (gd_some e_g32) (s4_3 ho0).1 e_r33) (gd_some e_g32).1.1 (gd_some e_g32).1.2 (by decide) rfl co_X0_takeFromBelt ml_X4_183 im_X0_takeFromBelt sl_X0_takeFromBelt ini_X0 nm_X0_takeFromBelt (by decide) (by decide) (Nat.le_refl _) (Nat.le_of_ble_eq_true rfl) rfl dX4_wouldBe_40 ?_
        refine g_pop hX (pc := 43) dX4_wouldBe_43 rfl ?_
        refine g_aload_n hX (pc := 44) (i := 0) dX4_wouldBe_44 rfl 0 rfl ?_
        obtain ⟨q34, e_q34, h⟩ := bnd h
        refine gfq4_12 hX (pc := 45) ho0 fl_X4_65 dX4_wouldBe_45 e_q34 ?_
        cases q34 with
        | none =>
          replace h := ocN h
          cases h
        | some a35 =>
          replace h := ocS h
          obtain ⟨g36, e_g36, h⟩ := bnd h
          refine gf0_7 hX (pc := 48) (gd_some e_g36) fl_X4_215 dX4_wouldBe_48 ?_
          replace h := Option.some.inj h
          obtain ⟨rfl, hT0⟩ := Prod.mk.inj h
          obtain ⟨rfl, rfl⟩ := Prod.mk.inj hT0
          exact g_ireturn hX (by decide) (by decide) dX4_wouldBe_51
noncomputable def f_X2_readLine (o0 b0 : Nat) (o1 : Nat) (I : MI) : Option (MI) :=
  (if (I o0 3) = 1 then
    some (I o0 5)
  else
    some 0).bind fun (p3 : Int32) =>
  if p3 = 315565 then
    (f_X2_readItem o0 b0 o1 I).bind fun r5 =>
    (f_X2_readClose o0 b0 r5).bind fun r6 =>
    (wf r6 o1 0 ((r6 o1 0) + 1)).bind fun I7 =>
    some I7
  else
    if p3 = 755397 then
      (f_X2_readWave o0 b0 o1 I).bind fun r9 =>
      (f_X2_readClose o0 b0 r9).bind fun r10 =>
      (wf r10 o1 0 ((r10 o1 0) + 1)).bind fun I11 =>
      some I11
    else
      if p3 = 8892595 then
        (f_X2_readHoles o0 b0 o1 I).bind fun r13 =>
        (f_X2_readClose o0 b0 r13).bind fun r14 =>
        (wf r14 o1 0 ((r14 o1 0) + 1)).bind fun I15 =>
        some I15
      else
        if p3 = 16322738 then
          (f_X2_readOrder o0 b0 o1 I).bind fun r17 =>
          (f_X2_readClose o0 b0 r17).bind fun r18 =>
          (wf r18 o1 0 ((r18 o1 0) + 1)).bind fun I19 =>
          some I19
        else
          (f_X2_fail o0 b0 1 I).bind fun r20 =>
          (f_X2_readClose o0 b0 r20).bind fun r21 =>
          (wf r21 o1 0 ((r21 o1 0) + 1)).bind fun I22 =>
          some I22
theorem nm_X2_readLine : yX2_readLine.cls ≠ "java/lang/invoke/MethodHandle" ∧ yX2_readLine.cls ≠ "java/lang/invoke/VarHandle" ∧ (parseMethodDescriptor yX2_readLine.desc).map (fun d => d.parameters.length) = some 1 := by decide +kernel
set_option maxRecDepth 100000 in
set_option maxHeartbeats 4000000 in
theorem ct_X2_readLine {E : Ev} {d : Nat} {z : Sh} {J : MJ} {I : MI} {o0 b0 : Nat} {o1 : Nat} {Iz : MI} (ho0 : oX2 z o0 b0) (ho1 : oX3 z o1) (h : f_X2_readLine o0 b0 o1 I = some Iz) : Ct E (d + 4) yX2_readLine cX2_readLine 3 none 0 0 [.ref o0, .ref o1] z J I none z J Iz := by
  unfold f_X2_readLine at h
  refine Ct.of (own := RX2) (ls := [(0, .ref o0), (1, .ref o1)]) (by decide) rfl (Nat.le_of_ble_eq_true rfl) rfl ?_
  intro X hr0 hnm hX
  refine g_aload_n hX (pc := 0) (i := 0) dX2_readLine_0 rfl 0 rfl ?_
  refine gf2_3 hX (pc := 1) ho0 fl_X2_22 dX2_readLine_1 ?_
  refine g_iconst hX (pc := 4) (v := 1) dX2_readLine_4 (by decide) ?_
  obtain ⟨p3, hpj2, h⟩ := bnd h
  have Kj2 : ∀ qj2 : Int32, qj2 = p3 → GW E X (QX E X 0 0 none z J Iz) 3 16 [(0, .ref o0), (1, .ref o1)] [.int qj2] z J I 0 0 := by
    intro qj2 hqj2
    subst hqj2
    refine g_istore_n hX (pc := 16) (i := 2) (ls' := [(0, .ref o0), (1, .ref o1), (2, .int qj2)]) [1, 2, 0] dX2_readLine_16 rfl (by decide) rfl ?_
    refine g_iload_n hX (pc := 17) (i := 2) dX2_readLine_17 rfl 2 rfl ?_
    by_cases c4 : qj2 = 315565
    · replace h := ifP c4 h
      refine g_lookup hX (pc := 18) (tgt := 76) (off := 58) dX2_readLine_18 (by decide) (by rw [c4]; decide) (by decide) ?_
      refine g_aload_n hX (pc := 76) (i := 0) dX2_readLine_76 rfl 0 rfl ?_
      refine g_aload_n hX (pc := 77) (i := 1) dX2_readLine_77 rfl 1 rfl ?_
      obtain ⟨r5, e_r5, h⟩ := bnd h
      refine g_callVv hX (pc := 78) (d := d + 3) hr0 [.ref o1] (c := 2) (ct_X2_readItem (d := d + 0) ho0 ho1 e_r5) ho0.1.1 ho0.1.2 (by decide) rfl co_X2_readItem ml_X2_58 im_X2_readItem sl_X2_readItem ini_X2 nm_X2_readItem (by decide) ⟨Nat.le_refl _, Nat.le_refl _⟩ (Nat.le_refl _) (Nat.le_of_ble_eq_true rfl) rfl dX2_readLine_78 ?_
      refine g_goto hX (pc := 81) (tgt := 97) dX2_readLine_81 (by decide) ?_
      refine g_aload_n hX (pc := 97) (i := 0) dX2_readLine_97 rfl 0 rfl ?_
      obtain ⟨r6, e_r6, h⟩ := bnd h
      refine g_callVv hX (pc := 98) (d := d + 3) hr0 [] (c := 2) (ct_X2_readClose (d := d + 1) ho0 e_r6) ho0.1.1 ho0.1.2 (by decide) rfl co_X2_readClose ml_X2_68 im_X2_readClose sl_X2_readClose ini_X2 nm_X2_readClose (by decide) ⟨Nat.le_refl _, Nat.le_refl _⟩ (Nat.le_refl _) (Nat.le_of_ble_eq_true rfl) rfl dX2_readLine_98 ?_
      refine g_aload_n hX (pc := 101) (i := 1) dX2_readLine_101 rfl 1 rfl ?_
      refine g_dup hX (pc := 102) dX2_readLine_102 rfl ?_
      refine gf3_0 hX (pc := 103) ho1 fl_X2_71 dX2_readLine_103 ?_
      refine g_iconst hX (pc := 106) (v := 1) dX2_readLine_106 (by decide) ?_
      refine g_iadd hX (pc := 107) dX2_readLine_107 ?_
      obtain ⟨I7, e_I7, h⟩ := bnd h
      refine pf3_0 hX (pc := 108) ho1 fl_X2_71 dX2_readLine_108 e_I7 ?_
      obtain rfl := Option.some.inj h
      exact g_return hX (Nat.le_refl _) (Nat.le_refl _) dX2_readLine_111
    · replace h := ifN c4 h
      by_cases c8 : qj2 = 755397
      · replace h := ifP c8 h
        refine g_lookup hX (pc := 18) (tgt := 68) (off := 50) dX2_readLine_18 (by decide) (by rw [c8]; decide) (by decide) ?_
        refine g_aload_n hX (pc := 68) (i := 0) dX2_readLine_68 rfl 0 rfl ?_
        refine g_aload_n hX (pc := 69) (i := 1) dX2_readLine_69 rfl 1 rfl ?_
        obtain ⟨r9, e_r9, h⟩ := bnd h
        refine g_callVv hX (pc := 70) (d := d + 3) hr0 [.ref o1] (c := 2) (ct_X2_readWave (d := d + 0) ho0 ho1 e_r9) ho0.1.1 ho0.1.2 (by decide) rfl co_X2_readWave ml_X2_55 im_X2_readWave sl_X2_readWave ini_X2 nm_X2_readWave (by decide) ⟨Nat.le_refl _, Nat.le_refl _⟩ (Nat.le_refl _) (Nat.le_of_ble_eq_true rfl) rfl dX2_readLine_70 ?_
        refine g_goto hX (pc := 73) (tgt := 97) dX2_readLine_73 (by decide) ?_
        refine g_aload_n hX (pc := 97) (i := 0) dX2_readLine_97 rfl 0 rfl ?_
        obtain ⟨r10, e_r10, h⟩ := bnd h
        refine g_callVv hX (pc := 98) (d := d + 3) hr0 [] (c := 2) (ct_X2_readClose (d := d + 1) ho0 e_r10) ho0.1.1 ho0.1.2 (by decide) rfl co_X2_readClose ml_X2_68 im_X2_readClose sl_X2_readClose ini_X2 nm_X2_readClose (by decide) ⟨Nat.le_refl _, Nat.le_refl _⟩ (Nat.le_refl _) (Nat.le_of_ble_eq_true rfl) rfl dX2_readLine_98 ?_
        refine g_aload_n hX (pc := 101) (i := 1) dX2_readLine_101 rfl 1 rfl ?_
        refine g_dup hX (pc := 102) dX2_readLine_102 rfl ?_
        refine gf3_0 hX (pc := 103) ho1 fl_X2_71 dX2_readLine_103 ?_
        refine g_iconst hX (pc := 106) (v := 1) dX2_readLine_106 (by decide) ?_
        refine g_iadd hX (pc := 107) dX2_readLine_107 ?_
        obtain ⟨I11, e_I11, h⟩ := bnd h
        refine pf3_0 hX (pc := 108) ho1 fl_X2_71 dX2_readLine_108 e_I11 ?_
        obtain rfl := Option.some.inj h
        exact g_return hX (Nat.le_refl _) (Nat.le_refl _) dX2_readLine_111
      · replace h := ifN c8 h
        by_cases c12 : qj2 = 8892595
        · replace h := ifP c12 h
          refine g_lookup hX (pc := 18) (tgt := 60) (off := 42) dX2_readLine_18 (by decide) (by rw [c12]; decide) (by decide) ?_
          refine g_aload_n hX (pc := 60) (i := 0) dX2_readLine_60 rfl 0 rfl ?_
          refine g_aload_n hX (pc := 61) (i := 1) dX2_readLine_61 rfl 1 rfl ?_
          obtain ⟨r13, e_r13, h⟩ := bnd h
          refine g_callVv hX (pc := 62) (d := d + 3) hr0 [.ref o1] (c := 2) (ct_X2_readHoles (d := d + 0) ho0 ho1 e_r13) ho0.1.1 ho0.1.2 (by decide) rfl co_X2_readHoles ml_X2_52 im_X2_readHoles sl_X2_readHoles ini_X2 nm_X2_readHoles (by decide) ⟨Nat.le_refl _, Nat.le_refl _⟩ (Nat.le_refl _) (Nat.le_of_ble_eq_true rfl) rfl dX2_readLine_62 ?_
          refine g_goto hX (pc := 65) (tgt := 97) dX2_readLine_65 (by decide) ?_
          refine g_aload_n hX (pc := 97) (i := 0) dX2_readLine_97 rfl 0 rfl ?_
          obtain ⟨r14, e_r14, h⟩ := bnd h
          refine g_callVv hX (pc := 98) (d := d + 3) hr0 [] (c := 2) (ct_X2_readClose (d := d + 1) ho0 e_r14) ho0.1.1 ho0.1.2 (by decide) rfl co_X2_readClose ml_X2_68 im_X2_readClose sl_X2_readClose ini_X2 nm_X2_readClose (by decide) ⟨Nat.le_refl _, Nat.le_refl _⟩ (Nat.le_refl _) (Nat.le_of_ble_eq_true rfl) rfl dX2_readLine_98 ?_
          refine g_aload_n hX (pc := 101) (i := 1) dX2_readLine_101 rfl 1 rfl ?_
          refine g_dup hX (pc := 102) dX2_readLine_102 rfl ?_
          refine gf3_0 hX (pc := 103) ho1 fl_X2_71 dX2_readLine_103 ?_
          refine g_iconst hX (pc := 106) (v := 1) dX2_readLine_106 (by decide) ?_
          refine g_iadd hX (pc := 107) dX2_readLine_107 ?_
          obtain ⟨I15, e_I15, h⟩ := bnd h
          refine pf3_0 hX (pc := 108) ho1 fl_X2_71 dX2_readLine_108 e_I15 ?_
          obtain rfl := Option.some.inj h
          exact g_return hX (Nat.le_refl _) (Nat.le_refl _) dX2_readLine_111
        · replace h := ifN c12 h
          by_cases c16 : qj2 = 16322738
          · replace h := ifP c16 h
            refine g_lookup hX (pc := 18) (tgt := 84) (off := 66) dX2_readLine_18 (by decide) (by rw [c16]; decide) (by decide) ?_
            refine g_aload_n hX (pc := 84) (i := 0) dX2_readLine_84 rfl 0 rfl ?_
            refine g_aload_n hX (pc := 85) (i := 1) dX2_readLine_85 rfl 1 rfl ?_
            obtain ⟨r17, e_r17, h⟩ := bnd h
            refine g_callVv hX (pc := 86) (d := d + 3) hr0 [.ref o1] (c := 2) (ct_X2_readOrder (d := d + 0) ho0 ho1 e_r17) ho0.1.1 ho0.1.2 (by decide) rfl co_X2_readOrder ml_X2_61 im_X2_readOrder sl_X2_readOrder ini_X2 nm_X2_readOrder (by decide) ⟨Nat.le_refl _, Nat.le_refl _⟩ (Nat.le_refl _) (Nat.le_of_ble_eq_true rfl) rfl dX2_readLine_86 ?_
            refine g_goto hX (pc := 89) (tgt := 97) dX2_readLine_89 (by decide) ?_
            refine g_aload_n hX (pc := 97) (i := 0) dX2_readLine_97 rfl 0 rfl ?_
            obtain ⟨r18, e_r18, h⟩ := bnd h
            refine g_callVv hX (pc := 98) (d := d + 3) hr0 [] (c := 2) (ct_X2_readClose (d := d + 1) ho0 e_r18) ho0.1.1 ho0.1.2 (by decide) rfl co_X2_readClose ml_X2_68 im_X2_readClose sl_X2_readClose ini_X2 nm_X2_readClose (by decide) ⟨Nat.le_refl _, Nat.le_refl _⟩ (Nat.le_refl _) (Nat.le_of_ble_eq_true rfl) rfl dX2_readLine_98 ?_
            refine g_aload_n hX (pc := 101) (i := 1) dX2_readLine_101 rfl 1 rfl ?_
            refine g_dup hX (pc := 102) dX2_readLine_102 rfl ?_
            refine gf3_0 hX (pc := 103) ho1 fl_X2_71 dX2_readLine_103 ?_
            refine g_iconst hX (pc := 106) (v := 1) dX2_readLine_106 (by decide) ?_
            refine g_iadd hX (pc := 107) dX2_readLine_107 ?_
            obtain ⟨I19, e_I19, h⟩ := bnd h
            refine pf3_0 hX (pc := 108) ho1 fl_X2_71 dX2_readLine_108 e_I19 ?_
            obtain rfl := Option.some.inj h
            exact g_return hX (Nat.le_refl _) (Nat.le_refl _) dX2_readLine_111
          · replace h := ifN c16 h
            refine g_lookup hX (pc := 18) (tgt := 92) (off := 74) dX2_readLine_18 (by decide) (by show Op.lookupswitch.offset [(315565, 58), (755397, 50), (8892595, 42), (16322738, 66)] 74 _ = _; rw [lv_osw c4 (show (315565 : Int32).toInt = 315565 by decide), lv_osw c8 (show (755397 : Int32).toInt = 755397 by decide), lv_osw c12 (show (8892595 : Int32).toInt = 8892595 by decide), lv_osw c16 (show (16322738 : Int32).toInt = 16322738 by decide)]; rfl) (by decide) ?_
            refine g_aload_n hX (pc := 92) (i := 0) dX2_readLine_92 rfl 0 rfl ?_
            refine g_iconst hX (pc := 93) (v := 1) dX2_readLine_93 (by decide) ?_
            obtain ⟨r20, e_r20, h⟩ := bnd h
            refine g_callVv hX (pc := 94) (d := d + 3) hr0 [.int 1] (c := 2) (ct_X2_fail (d := d + 3) ho0 e_r20) ho0.1.1 ho0.1.2 (by decide) rfl co_X2_fail ml_X2_64 im_X2_fail sl_X2_fail ini_X2 nm_X2_fail (by decide) ⟨Nat.le_refl _, Nat.le_refl _⟩ (Nat.le_refl _) (Nat.le_of_ble_eq_true rfl) rfl dX2_readLine_94 ?_
            refine g_aload_n hX (pc := 97) (i := 0) dX2_readLine_97 rfl 0 rfl ?_
            obtain ⟨r21, e_r21, h⟩ := bnd h
            refine g_callVv hX (pc := 98) (d := d + 3) hr0 [] (c := 2) (ct_X2_readClose (d := d + 1) ho0 e_r21) ho0.1.1 ho0.1.2 (by decide) rfl co_X2_readClose ml_X2_68 im_X2_readClose sl_X2_readClose ini_X2 nm_X2_readClose (by decide) ⟨Nat.le_refl _, Nat.le_refl _⟩ (Nat.le_refl _) (Nat.le_of_ble_eq_true rfl) rfl dX2_readLine_98 ?_
            refine g_aload_n hX (pc := 101) (i := 1) dX2_readLine_101 rfl 1 rfl ?_
            refine g_dup hX (pc := 102) dX2_readLine_102 rfl ?_
            refine gf3_0 hX (pc := 103) ho1 fl_X2_71 dX2_readLine_103 ?_
            refine g_iconst hX (pc := 106) (v := 1) dX2_readLine_106 (by decide) ?_
            refine g_iadd hX (pc := 107) dX2_readLine_107 ?_
            obtain ⟨I22, e_I22, h⟩ := bnd h
            refine pf3_0 hX (pc := 108) ho1 fl_X2_71 dX2_readLine_108 e_I22 ?_
            obtain rfl := Option.some.inj h
            exact g_return hX (Nat.le_refl _) (Nat.le_refl _) dX2_readLine_111
  replace h := hpj2
  clear hpj2
  refine g_icmp_ne hX (pc := 5) dX2_readLine_5 (tgt := 15) (by decide) (fun c1 => ?_) (fun c1 => ?_)
  · replace h := ifP c1 h
    refine g_aload_n hX (pc := 8) (i := 0) dX2_readLine_8 rfl 0 rfl ?_
    refine gf2_5 hX (pc := 9) ho0 fl_X2_28 dX2_readLine_9 ?_
    refine g_goto hX (pc := 12) (tgt := 16) dX2_readLine_12 (by decide) ?_
    exact Kj2 (I o0 5) (Option.some.inj h)
  · replace h := ifN c1 h
    refine g_iconst hX (pc := 15) (v := 0) dX2_readLine_15 (by decide) ?_
    exact Kj2 0 (Option.some.inj h)
noncomputable def b_X2_read_36 (o0 : Nat) (o1 : Nat) (o3 : Nat) (s : Int32 × MI) : Option ((Int32 × MI) ⊕ (Int32 × MI)) :=
  if s.1 < 600 then
    if (s.2 o0 6) = 0 then
      if (s.2 o0 3) = 0 then
        some (.inr ((s.1, s.2)))
      else
        (f_X2_readLine o0 o1 o3 s.2).bind fun r16 =>
        some (.inl ((s.1 + 1, r16)))
    else
      some (.inr ((s.1, s.2)))
  else
    some (.inr ((s.1, s.2)))
noncomputable def f_X2_read (o0 : Nat) (o1 n1 : Nat) (x2 : Int32) (o3 : Nat) (z : Sh) (I : MI) : Option (Int32 × Sh × MI) :=
  (nm (zSt z o0 0 (some o1))).bind fun z1 =>
  (gd (oX2 z1 o0 o1)).bind fun g2 =>
  (gd (oX3 z1 o3)).bind fun g3 =>
  (gd (o1 ∈ zL z1 ∧ zK z1 o1 = 6 ∧ zn z1 o1 = n1)).bind fun g4 =>
  (wf I o0 1 (imin x2 (Int32.ofNat n1))).bind fun I5 =>
  (wf I5 o0 2 0).bind fun I6 =>
  (wf I6 o0 6 0).bind fun I7 =>
  (f_X3_clear o3 I7).bind fun r8 =>
  (f_X2_advance o0 o1 r8).bind fun r9 =>
  (lp (b_X2_read_36 o0 o1 o3) ((0, r9))).bind fun p17 =>
  some ((p17.2 o0 6, z1, p17.2))
theorem nm_X2_read : yX2_read.cls ≠ "java/lang/invoke/MethodHandle" ∧ yX2_read.cls ≠ "java/lang/invoke/VarHandle" ∧ (parseMethodDescriptor yX2_read.desc).map (fun d => d.parameters.length) = some 3 := by decide +kernel
set_option maxRecDepth 100000 in
set_option maxHeartbeats 4000000 in
theorem ct_X2_read {E : Ev} {d : Nat} {z : Sh} {J : MJ} {I : MI} {o0 : Nat} {o1 n1 : Nat} {x2 : Int32} {o3 : Nat} {rr : Int32} {zz : Sh} {Iz : MI} (ho0 : raw z o0 2) (ha1 : o1 ∈ zL z ∧ zK z o1 = 6 ∧ zn z o1 = n1) (ho3 : oX3 z o3) (h : f_X2_read o0 o1 n1 x2 o3 z I = some ((rr, zz, Iz))) : Ct E (d + 5) yX2_read cX2_read 5 (some .int) 0 0 [.ref o0, .ref o1, .int x2, .ref o3] z J I (some (.int rr)) zz J Iz := by
  unfold f_X2_read at h
  refine Ct.of (own := RX2) (ls := [(0, .ref o0), (1, .ref o1), (2, .int x2), (3, .ref o3)]) (by decide) rfl (Nat.le_of_ble_eq_true rfl) rfl ?_
  intro X hr0 hnm hX
  refine g_aload_n hX (pc := 0) (i := 0) dX2_read_0 rfl 0 rfl ?_
  refine g_aload_n hX (pc := 1) (i := 1) dX2_read_1 rfl 1 rfl ?_
  refine pr2_0 hX (pc := 2) ho0 fl_X2_9 dX2_read_2 ?_
  obtain ⟨z1, e_z1, h⟩ := bnd h
  refine g_nmz e_z1 ?_
  obtain ⟨g2, e_g2, h⟩ := bnd h
  obtain ⟨g3, e_g3, h⟩ := bnd h
  obtain ⟨g4, e_g4, h⟩ := bnd h
  refine g_aload_n hX (pc := 5) (i := 0) dX2_read_5 rfl 0 rfl ?_
  refine g_iload_n hX (pc := 6) (i := 2) dX2_read_6 rfl 2 rfl ?_
  refine g_aload_n hX (pc := 7) (i := 1) dX2_read_7 rfl 1 rfl ?_
  refine g_arraylength hX (pc := 8) (v := Int32.ofNat n1) (gd_some e_g4).1 (gd_some e_g4).2.1 (gd_some e_g4).2.2 (Or.inl rfl) rfl dX2_read_8 ?_
  refine g_mmin (d := d + 4) hX (pc := 9) hr0 ml_X2_34 (by exact Nat.le_of_ble_eq_true rfl) ⟨Nat.zero_le _, Nat.zero_le _⟩ dX2_read_9 ?_
  obtain ⟨I5, e_I5, h⟩ := bnd h
  refine pf2_1 hX (pc := 12) (gd_some e_g2) fl_X2_15 dX2_read_12 e_I5 ?_
  refine g_aload_n hX (pc := 15) (i := 0) dX2_read_15 rfl 0 rfl ?_
  refine g_iconst hX (pc := 16) (v := 0) dX2_read_16 (by decide) ?_
  obtain ⟨I6, e_I6, h⟩ := bnd h
  refine pf2_2 hX (pc := 17) (gd_some e_g2) fl_X2_19 dX2_read_17 e_I6 ?_
  refine g_aload_n hX (pc := 20) (i := 0) dX2_read_20 rfl 0 rfl ?_
  refine g_iconst hX (pc := 21) (v := 0) dX2_read_21 (by decide) ?_
  obtain ⟨I7, e_I7, h⟩ := bnd h
  refine pf2_6 hX (pc := 22) (gd_some e_g2) fl_X2_31 dX2_read_22 e_I7 ?_
  refine g_aload_n hX (pc := 25) (i := 3) dX2_read_25 rfl 3 rfl ?_
  obtain ⟨r8, e_r8, h⟩ := bnd h
  refine g_callVv hX (pc := 26) (d := d + 4) hr0 [] (c := 3) (ct_X3_clear (d := d + 3) (gd_some e_g3) e_r8) (gd_some e_g3).1.1 (gd_some e_g3).1.2 (by decide) rfl co_X3_clear ml_X2_40 im_X3_clear sl_X3_clear ini_X3 nm_X3_clear (by decide) ⟨Nat.le_refl _, Nat.le_refl _⟩ (Nat.le_refl _) (Nat.le_of_ble_eq_true rfl) rfl dX2_read_26 ?_
  refine g_aload_n hX (pc := 29) (i := 0) dX2_read_29 rfl 0 rfl ?_
  obtain ⟨r9, e_r9, h⟩ := bnd h
  refine g_callVv hX (pc := 30) (d := d + 4) hr0 [] (c := 2) (ct_X2_advance (d := d + 3) (gd_some e_g2) e_r9) (gd_some e_g2).1.1 (gd_some e_g2).1.2 (by decide) rfl co_X2_advance ml_X2_45 im_X2_advance sl_X2_advance ini_X2 nm_X2_advance (by decide) ⟨Nat.le_refl _, Nat.le_refl _⟩ (Nat.le_refl _) (Nat.le_of_ble_eq_true rfl) rfl dX2_read_30 ?_
  refine g_iconst hX (pc := 33) (v := 0) dX2_read_33 (by decide) ?_
  refine g_istore hX (pc := 34) (ls' := [(0, .ref o0), (1, .ref o1), (2, .int x2), (3, .ref o3), (4, .int 0)]) [1, 2, 3, 4, 0] dX2_read_34 (by decide) rfl ?_
  obtain ⟨p17, hpl12, h⟩ := bnd h
  have Kl12 : ∀ ql12 : Int32 × MI, ql12 = p17 → GW E X (QX E X 0 0 (some (.int rr)) zz J Iz) 5 69 [(0, .ref o0), (1, .ref o1), (2, .int x2), (3, .ref o3), (4, .int ql12.1)] [] z1 J ql12.2 0 0 := by
    intro ql12 hql12
    subst hql12
    refine g_aload_n hX (pc := 69) (i := 0) dX2_read_69 rfl 0 rfl ?_
    refine gf2_6 hX (pc := 70) (gd_some e_g2) fl_X2_31 dX2_read_70 ?_
    replace h := Option.some.inj h
    obtain ⟨rfl, hT0⟩ := Prod.mk.inj h
    obtain ⟨rfl, rfl⟩ := Prod.mk.inj hT0
    exact g_ireturn hX (Nat.le_refl _) (Nat.le_refl _) dX2_read_73
  obtain ⟨kl12, hkl12⟩ := lp_ex hpl12
  clear hpl12 h
  have Ll12 : ∀ k : Nat, ∀ (s10 : Int32) (I11 : MI), lpN k (b_X2_read_36 o0 o1 o3) ((s10, I11)) = some p17 → GW E X (QX E X 0 0 (some (.int rr)) zz J Iz) 5 36 [(0, .ref o0), (1, .ref o1), (2, .int x2), (3, .ref o3), (4, .int s10)] [] z1 J I11 0 0 := by
    intro k
    induction k with
    | zero => intro s10 I11 h; cases h
    | succ k ihl12 =>
      intro s10 I11 h
      obtain ⟨wl12, h, hwl12⟩ := lpN_s h
      unfold b_X2_read_36 at h
      try dsimp only at h
      refine g_iload hX (pc := 36) dX2_read_36 4 rfl ?_
      refine g_sipush hX (pc := 38) (v := 600) dX2_read_38 (by decide) ?_
      refine g_icmp_ge hX (pc := 41) dX2_read_41 (tgt := 69) (by decide) (fun c13 => ?_) (fun c13 => ?_)
      · replace h := ifP c13 h
        refine g_aload_n hX (pc := 44) (i := 0) dX2_read_44 rfl 0 rfl ?_
        refine gf2_6 hX (pc := 45) (gd_some e_g2) fl_X2_31 dX2_read_45 ?_
        refine g_if_ne hX (pc := 48) dX2_read_48 (tgt := 69) (by decide) (fun c14 => ?_) (fun c14 => ?_)
        · replace h := ifP c14 h
          refine g_aload_n hX (pc := 51) (i := 0) dX2_read_51 rfl 0 rfl ?_
          refine gf2_3 hX (pc := 52) (gd_some e_g2) fl_X2_22 dX2_read_52 ?_
          refine g_if_eq hX (pc := 55) dX2_read_55 (tgt := 69) (by decide) (fun c15 => ?_) (fun c15 => ?_)
          · replace h := ifP c15 h
            obtain rfl := Option.some.inj h
            exact Kl12 ((s10, I11)) hwl12
          · replace h := ifN c15 h
            refine g_aload_n hX (pc := 58) (i := 0) dX2_read_58 rfl 0 rfl ?_
            refine g_aload_n hX (pc := 59) (i := 3) dX2_read_59 rfl 3 rfl ?_
            obtain ⟨r16, e_r16, h⟩ := bnd h
            refine g_callVv hX (pc := 60) (d := d + 4) hr0 [.ref o3] (c := 2) (ct_X2_readLine (d := d + 0) (gd_some e_g2) (gd_some e_g3) e_r16) (gd_some e_g2).1.1 (gd_some e_g2).1.2 (by decide) rfl co_X2_readLine ml_X2_48 im_X2_readLine sl_X2_readLine ini_X2 nm_X2_readLine (by decide) ⟨Nat.le_refl _, Nat.le_refl _⟩ (Nat.le_refl _) (Nat.le_of_ble_eq_true rfl) rfl dX2_read_60 ?_
            refine g_iinc hX (pc := 63) (i := 4) (v := s10 + 1) (ls' := [(0, .ref o0), (1, .ref o1), (2, .int x2), (3, .ref o3), (4, .int (s10 + 1))]) 4 [1, 2, 3, 4, 0] dX2_read_63 rfl (by rfl) (by decide) rfl ?_
            refine g_goto hX (pc := 66) (tgt := 36) dX2_read_66 (by decide) ?_
            obtain rfl := Option.some.inj h
            exact ihl12 (s10 + 1) r16 hwl12
        · replace h := ifN c14 h
          obtain rfl := Option.some.inj h
          exact Kl12 ((s10, I11)) hwl12
      · replace h := ifN c13 h
        obtain rfl := Option.some.inj h
        exact Kl12 ((s10, I11)) hwl12
  exact Ll12 kl12 0 r9 hkl12
noncomputable def b_X4_wall_82 (o0 : Nat) (s : Int32 × MI) : Option ((Int32 × MI) ⊕ (Int32 × MI)) :=
  if s.1 < 2 then
    (wr 2 s.2 (o0 + 45) s.1 0).bind fun I23 =>
    some (.inl ((s.1 + 1, I23)))
  else
    some (.inr ((s.1, s.2)))
noncomputable def f_X4_wall (o0 t0 u0 : Nat) (x1 : Int32) (z : Sh) (I : MI) : Option (Int32 × Sh × MI) :=
  if x1 < 0 then
    some (((-1), z, I))
  else
    if (I o0 1) < x1 then
      some (((-1), z, I))
    else
      (wf I o0 1 0).bind fun I3 =>
      (gd (raw z (o0 + 2) 2)).bind fun g4 =>
      (f_X2_read (o0 + 2) (o0 + 1) 600 x1 u0 z I3).bind fun r5 =>
      (gd (zs z ≤ zs r5.2.1)).bind fun g6 =>
      (gd (oX4 r5.2.1 o0 t0 u0)).bind fun g7 =>
      if r5.1 = 0 then
        (gd (raw r5.2.1 o0 4)).bind fun g9 =>
        (nm (zSt r5.2.1 o0 4 (some t0))).bind fun z10 =>
        (gd (oX4 z10 o0 t0 t0)).bind fun g11 =>
        (gd (oX3 z10 u0)).bind fun g12 =>
        (gd (raw z10 o0 4)).bind fun g13 =>
        (nm (zSt z10 o0 3 (some u0))).bind fun z14 =>
        (gd (oX4 z14 o0 u0 t0)).bind fun g15 =>
        (gd (oX3 z14 u0)).bind fun g16 =>
        (f_X0_begin (o0 + 24) u0 r5.2.2).bind fun r17 =>
        (wf r17 o0 9 0).bind fun I18 =>
        (lp (b_X4_wall_82 o0) ((0, I18))).bind fun p24 =>
        some ((p24.2 u0 0, z14, p24.2))
      else
        some ((((-2)) - r5.1, r5.2.1, r5.2.2))
theorem nm_X4_wall : yX4_wall.cls ≠ "java/lang/invoke/MethodHandle" ∧ yX4_wall.cls ≠ "java/lang/invoke/VarHandle" ∧ (parseMethodDescriptor yX4_wall.desc).map (fun d => d.parameters.length) = some 1 := by decide +kernel
set_option maxRecDepth 100000 in
set_option maxHeartbeats 4000000 in
theorem ct_X4_wall {E : Ev} {d : Nat} {z : Sh} {J : MJ} {I : MI} {o0 t0 u0 : Nat} {x1 : Int32} {rr : Int32} {zz : Sh} {Iz : MI} (ho0 : oX4 z o0 t0 u0) (h : f_X4_wall o0 t0 u0 x1 z I = some ((rr, zz, Iz))) : Ct E (d + 6) yX4_wall cX4_wall 5 (some .int) 0 0 [.ref o0, .int x1] z J I (some (.int rr)) zz J Iz := by
  unfold f_X4_wall at h
  refine Ct.of (own := RX4) (ls := [(0, .ref o0), (1, .int x1)]) (by decide) rfl (Nat.le_of_ble_eq_true rfl) rfl ?_
  intro X hr0 hnm hX
  refine g_iload_n hX (pc := 0) (i := 1) dX4_wall_0 rfl 1 rfl ?_
  refine g_if_lt hX (pc := 1) dX4_wall_1 (tgt := 12) (by decide) (fun c1 => ?_) (fun c1 => ?_)
  · replace h := ifP c1 h
    refine g_iconst hX (pc := 12) (v := (-1)) dX4_wall_12 (by decide) ?_
    replace h := Option.some.inj h
    obtain ⟨rfl, hT0⟩ := Prod.mk.inj h
    obtain ⟨rfl, rfl⟩ := Prod.mk.inj hT0
    exact g_ireturn hX (Nat.le_refl _) (Nat.le_refl _) dX4_wall_13
  · replace h := ifN c1 h
    refine g_iload_n hX (pc := 4) (i := 1) dX4_wall_4 rfl 1 rfl ?_
    refine g_aload_n hX (pc := 5) (i := 0) dX4_wall_5 rfl 0 rfl ?_
    refine gf4_1 hX (pc := 6) ho0 fl_X4_13 dX4_wall_6 ?_
    refine g_icmp_le hX (pc := 9) dX4_wall_9 (tgt := 14) (by decide) (fun c2 => ?_) (fun c2 => ?_)
    · replace h := ifP c2 h
      refine g_iconst hX (pc := 12) (v := (-1)) dX4_wall_12 (by decide) ?_
      replace h := Option.some.inj h
      obtain ⟨rfl, hT0⟩ := Prod.mk.inj h
      obtain ⟨rfl, rfl⟩ := Prod.mk.inj hT0
      exact g_ireturn hX (Nat.le_refl _) (Nat.le_refl _) dX4_wall_13
    · replace h := ifN c2 h
      refine g_aload_n hX (pc := 14) (i := 0) dX4_wall_14 rfl 0 rfl ?_
      refine g_iconst hX (pc := 15) (v := 0) dX4_wall_15 (by decide) ?_
      obtain ⟨I3, e_I3, h⟩ := bnd h
      refine pf4_1 hX (pc := 16) ho0 fl_X4_13 dX4_wall_16 e_I3 ?_
      refine g_aload_n hX (pc := 19) (i := 0) dX4_wall_19 rfl 0 rfl ?_
      refine gf4_2 hX (pc := 20) ho0 fl_X4_20 dX4_wall_20 ?_
      obtain ⟨g4, e_g4, h⟩ := bnd h
      refine g_aload_n hX (pc := 23) (i := 0) dX4_wall_23 rfl 0 rfl ?_
      refine gf4_0 hX (pc := 24) ho0 fl_X4_9 dX4_wall_24 ?_
      refine g_iload_n hX (pc := 27) (i := 1) dX4_wall_27 rfl 1 rfl ?_
      refine g_aload_n hX (pc := 28) (i := 0) dX4_wall_28 rfl 0 rfl ?_
      refine gf4_4 hX (pc := 29) ho0 fl_X4_31 dX4_wall_29 ?_
      obtain ⟨r5, e_r5, h⟩ := bnd h
      obtain ⟨g6, e_g6, h⟩ := bnd h
      refine g_callVi hX (pc := 32) (d := d + 5) hr0 [.ref (o0 + 1), .int x1, .ref u0] (c := 2) (ct_X2_read (d := d + 0) (gd_some e_g4) ⟨(s4_0 ho0).1, (s4_0 ho0).2.1, (s4_0 ho0).2.2.1⟩ (s4_4 ho0).1 e_r5) (gd_some e_g4).1 (gd_some e_g4).2.1 (by decide) rfl co_X2_read ml_X4_72 im_X2_read sl_X2_read ini_X2 nm_X2_read (by decide) ⟨Nat.le_refl _, Nat.le_refl _⟩ (gd_some e_g6) (Nat.le_of_ble_eq_true rfl) rfl dX4_wall_32 ?_
      obtain ⟨g7, e_g7, h⟩ := bnd h
      refine g_istore_n hX (pc := 35) (i := 2) (ls' := [(0, .ref o0), (1, .int x1), (2, .int r5.1)]) [1, 2, 0] dX4_wall_35 rfl (by decide) rfl ?_
      refine g_iload_n hX (pc := 36) (i := 2) dX4_wall_36 rfl 2 rfl ?_
      refine g_if_eq hX (pc := 37) dX4_wall_37 (tgt := 45) (by decide) (fun c8 => ?_) (fun c8 => ?_)
      · replace h := ifP c8 h
        refine g_aload_n hX (pc := 45) (i := 0) dX4_wall_45 rfl 0 rfl ?_
        refine gf4_4 hX (pc := 46) (gd_some e_g7) fl_X4_31 dX4_wall_46 ?_
        refine g_astore_n hX (pc := 49) (i := 3) (ls' := [(0, .ref o0), (1, .int x1), (2, .int r5.1), (3, .ref u0)]) [1, 2, 3, 0] dX4_wall_49 rfl (by decide) rfl ?_
        refine g_aload_n hX (pc := 50) (i := 0) dX4_wall_50 rfl 0 rfl ?_
        refine g_aload_n hX (pc := 51) (i := 0) dX4_wall_51 rfl 0 rfl ?_
        refine gf4_3 hX (pc := 52) (gd_some e_g7) fl_X4_27 dX4_wall_52 ?_
        obtain ⟨g9, e_g9, h⟩ := bnd h
        refine pr4_4 hX (pc := 55) (gd_some e_g9) fl_X4_31 dX4_wall_55 ?_
        obtain ⟨z10, e_z10, h⟩ := bnd h
        refine g_nmz e_z10 ?_
        obtain ⟨g11, e_g11, h⟩ := bnd h
        obtain ⟨g12, e_g12, h⟩ := bnd h
        refine g_aload_n hX (pc := 58) (i := 0) dX4_wall_58 rfl 0 rfl ?_
        refine g_aload_n hX (pc := 59) (i := 3) dX4_wall_59 rfl 3 rfl ?_
        obtain ⟨g13, e_g13, h⟩ := bnd h
        refine pr4_3 hX (pc := 60) (gd_some e_g13) fl_X4_27 dX4_wall_60 ?_
        obtain ⟨z14, e_z14, h⟩ := bnd h
        refine g_nmz e_z14 ?_
        obtain ⟨g15, e_g15, h⟩ := bnd h
        obtain ⟨g16, e_g16, h⟩ := bnd h
        refine g_aload_n hX (pc := 63) (i := 0) dX4_wall_63 rfl 0 rfl ?_
        refine gf4_5 hX (pc := 64) (gd_some e_g15) fl_X4_37 dX4_wall_64 ?_
        refine g_aload_n hX (pc := 67) (i := 0) dX4_wall_67 rfl 0 rfl ?_
        refine gf4_3 hX (pc := 68) (gd_some e_g15) fl_X4_27 dX4_wall_68 ?_
        obtain ⟨r17, e_r17, h⟩ := bnd h
        refine g_callVv hX (pc := 71) (d := d + 5) hr0 [.ref u0] (c := 0) (ct_X0_begin (d := d + 4) (s4_5 (gd_some e_g15)).1 (s4_3 (gd_some e_g15)).1 e_r17) (s4_5 (gd_some e_g15)).1.1.1 (s4_5 (gd_some e_g15)).1.1.2 (by decide) rfl co_X0_begin ml_X4_76 im_X0_begin sl_X0_begin ini_X0 nm_X0_begin (by decide) ⟨Nat.le_refl _, Nat.le_refl _⟩ (Nat.le_refl _) (Nat.le_of_ble_eq_true rfl) rfl dX4_wall_71 ?_
        refine g_aload_n hX (pc := 74) (i := 0) dX4_wall_74 rfl 0 rfl ?_
        refine g_iconst hX (pc := 75) (v := 0) dX4_wall_75 (by decide) ?_
        obtain ⟨I18, e_I18, h⟩ := bnd h
        refine pf4_9 hX (pc := 76) (gd_some e_g15) fl_X4_55 dX4_wall_76 e_I18 ?_
        refine g_iconst hX (pc := 79) (v := 0) dX4_wall_79 (by decide) ?_
        refine g_istore hX (pc := 80) (ls' := [(0, .ref o0), (1, .int x1), (2, .int r5.1), (3, .ref u0), (4, .int 0)]) [1, 2, 3, 4, 0] dX4_wall_80 (by decide) rfl ?_
        obtain ⟨p24, hpl21, h⟩ := bnd h
        have Kl21 : ∀ ql21 : Int32 × MI, ql21 = p24 → GW E X (QX E X 0 0 (some (.int rr)) zz J Iz) 5 102 [(0, .ref o0), (1, .int x1), (2, .int r5.1), (3, .ref u0), (4, .int ql21.1)] [] z14 J ql21.2 0 0 := by
          intro ql21 hql21
          subst hql21
          refine g_aload_n hX (pc := 102) (i := 0) dX4_wall_102 rfl 0 rfl ?_
          refine gf4_3 hX (pc := 103) (gd_some e_g15) fl_X4_27 dX4_wall_103 ?_
          refine gf3_0 hX (pc := 106) (s4_3 (gd_some e_g15)).1 fl_X4_80 dX4_wall_106 ?_
          replace h := Option.some.inj h
          obtain ⟨rfl, hT0⟩ := Prod.mk.inj h
          obtain ⟨rfl, rfl⟩ := Prod.mk.inj hT0
          exact g_ireturn hX (Nat.le_refl _) (Nat.le_refl _) dX4_wall_109
        obtain ⟨kl21, hkl21⟩ := lp_ex hpl21
        clear hpl21 h
        have Ll21 : ∀ k : Nat, ∀ (s19 : Int32) (I20 : MI), lpN k (b_X4_wall_82 o0) ((s19, I20)) = some p24 → GW E X (QX E X 0 0 (some (.int rr)) zz J Iz) 5 82 [(0, .ref o0), (1, .int x1), (2, .int r5.1), (3, .ref u0), (4, .int s19)] [] z14 J I20 0 0 := by
          intro k
          induction k with
          | zero => intro s19 I20 h; cases h
          | succ k ihl21 =>
            intro s19 I20 h
            obtain ⟨wl21, h, hwl21⟩ := lpN_s h
            unfold b_X4_wall_82 at h
            try dsimp only at h
            refine g_iload hX (pc := 82) dX4_wall_82 4 rfl ?_
            refine g_iconst hX (pc := 84) (v := 2) dX4_wall_84 (by decide) ?_
            refine g_icmp_ge hX (pc := 85) dX4_wall_85 (tgt := 102) (by decide) (fun c22 => ?_) (fun c22 => ?_)
            · replace h := ifP c22 h
              refine g_aload_n hX (pc := 88) (i := 0) dX4_wall_88 rfl 0 rfl ?_
              refine gf4_11 hX (pc := 89) (gd_some e_g15) fl_X4_61 dX4_wall_89 ?_
              refine g_iload hX (pc := 92) dX4_wall_92 4 rfl ?_
              refine g_iconst hX (pc := 94) (v := 0) dX4_wall_94 (by decide) ?_
              obtain ⟨I23, e_I23, h⟩ := bnd h
              refine g_zastoreE hX (pc := 95) (s4_11 (gd_some e_g15)).1 (s4_11 (gd_some e_g15)).2.1 (s4_11 (gd_some e_g15)).2.2.1 e_I23 (by decide) dX4_wall_95 ?_
              refine g_iinc hX (pc := 96) (i := 4) (v := s19 + 1) (ls' := [(0, .ref o0), (1, .int x1), (2, .int r5.1), (3, .ref u0), (4, .int (s19 + 1))]) 4 [1, 2, 3, 4, 0] dX4_wall_96 rfl (by rfl) (by decide) rfl ?_
              refine g_goto hX (pc := 99) (tgt := 82) dX4_wall_99 (by decide) ?_
              obtain rfl := Option.some.inj h
              exact ihl21 (s19 + 1) I23 hwl21
            · replace h := ifN c22 h
              obtain rfl := Option.some.inj h
              exact Kl21 ((s19, I20)) hwl21
        exact Ll21 kl21 0 I18 hkl21
      · replace h := ifN c8 h
        refine g_bipush hX (pc := 40) (v := (-2)) dX4_wall_40 (by decide) ?_
        refine g_iload_n hX (pc := 42) (i := 2) dX4_wall_42 rfl 2 rfl ?_
        refine g_isub hX (pc := 43) dX4_wall_43 ?_
        replace h := Option.some.inj h
        obtain ⟨rfl, hT0⟩ := Prod.mk.inj h
        obtain ⟨rfl, rfl⟩ := Prod.mk.inj hT0
        exact g_ireturn hX (Nat.le_refl _) (Nat.le_refl _) dX4_wall_44
