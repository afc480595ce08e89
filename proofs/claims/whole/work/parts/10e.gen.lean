noncomputable def f_X2_readHoles (o0 b0 : Nat) (o1 : Nat) (I : MI) : Option (MI) :=
  if (I o1 2) = 0 then
    (wf I o1 2 1).bind fun I2 =>
    (f_X2_advance o0 b0 I2).bind fun r3 =>
    (f_X2_readNumber o0 b0 1 8 r3).bind fun r4 =>
    (wf r4.2 o1 1 r4.1).bind fun I5 =>
    some I5
  else
    (f_X2_fail o0 b0 2 I).bind fun r6 =>
    some r6
theorem nm_X2_readHoles : yX2_readHoles.cls ≠ "java/lang/invoke/MethodHandle" ∧ yX2_readHoles.cls ≠ "java/lang/invoke/VarHandle" ∧ (parseMethodDescriptor yX2_readHoles.desc).map (fun d => d.parameters.length) = some 1 := by decide +kernel
set_option maxRecDepth 100000 in
set_option maxHeartbeats 4000000 in
theorem ct_X2_readHoles {E : Ev} {d : Nat} {z : Sh} {J : MJ} {I : MI} {o0 b0 : Nat} {o1 : Nat} {Iz : MI} (ho0 : oX2 z o0 b0) (ho1 : oX3 z o1) (h : f_X2_readHoles o0 b0 o1 I = some Iz) : Ct E (d + 4) yX2_readHoles cX2_readHoles 2 none 0 0 [.ref o0, .ref o1] z J I none z J Iz := by
  unfold f_X2_readHoles at h
  refine Ct.of (own := RX2) (ls := [(0, .ref o0), (1, .ref o1)]) (by decide) rfl (Nat.le_of_ble_eq_true rfl) rfl ?_
  intro X hr0 hnm hX
  refine g_aload_n hX (pc := 0) (i := 1) dX2_readHoles_0 rfl 1 rfl ?_
  refine gf3_2 hX (pc := 1) ho1 fl_X2_74 dX2_readHoles_1 ?_
  refine g_if_eq hX (pc := 4) dX2_readHoles_4 (tgt := 13) (by decide) (fun c1 => ?_) (fun c1 => ?_)
  · replace h := ifP c1 h
    refine g_aload_n hX (pc := 13) (i := 1) dX2_readHoles_13 rfl 1 rfl ?_
    refine g_iconst hX (pc := 14) (v := 1) dX2_readHoles_14 (by decide) ?_
    obtain ⟨I2, e_I2, h⟩ := bnd h
    refine pf3_2 hX (pc := 15) ho1 fl_X2_74 dX2_readHoles_15 e_I2 (by decide) ?_
    refine g_aload_n hX (pc := 18) (i := 0) dX2_readHoles_18 rfl 0 rfl ?_
    obtain ⟨r3, e_r3, h⟩ := bnd h
    refine g_callVv hX (pc := 19) (d := d + 3) hr0 [] (c := 2) (ct_X2_advance (d := d + 1) ho0 e_r3) ho0.1.1 ho0.1.2 (by decide) rfl co_X2_advance ml_X2_45 im_X2_advance sl_X2_advance ini_X2 nm_X2_advance (by decide) ⟨Nat.le_refl _, Nat.le_refl _⟩ (Nat.le_refl _) (Nat.le_of_ble_eq_true rfl) rfl dX2_readHoles_19 ?_
    refine g_aload_n hX (pc := 22) (i := 1) dX2_readHoles_22 rfl 1 rfl ?_
    refine g_aload_n hX (pc := 23) (i := 0) dX2_readHoles_23 rfl 0 rfl ?_
    refine g_iconst hX (pc := 24) (v := 1) dX2_readHoles_24 (by decide) ?_
    refine g_bipush hX (pc := 25) (v := 8) dX2_readHoles_25 (by decide) ?_
    obtain ⟨r4, e_r4, h⟩ := bnd h
    refine g_callVi hX (pc := 27) (d := d + 3) hr0 [.int 1, .int 8] (c := 2) (ct_X2_readNumber (d := d + 0) ho0 e_r4) ho0.1.1 ho0.1.2 (by decide) rfl co_X2_readNumber ml_X2_78 im_X2_readNumber sl_X2_readNumber ini_X2 nm_X2_readNumber (by decide) ⟨Nat.le_refl _, Nat.le_refl _⟩ (Nat.le_refl _) (Nat.le_of_ble_eq_true rfl) rfl dX2_readHoles_27 ?_
    obtain ⟨I5, e_I5, h⟩ := bnd h
    refine pf3_1 hX (pc := 30) ho1 fl_X2_81 dX2_readHoles_30 e_I5 ?_
    obtain rfl := Option.some.inj h
    exact g_return hX (Nat.le_refl _) (Nat.le_refl _) dX2_readHoles_33
  · replace h := ifN c1 h
    refine g_aload_n hX (pc := 7) (i := 0) dX2_readHoles_7 rfl 0 rfl ?_
    refine g_iconst hX (pc := 8) (v := 2) dX2_readHoles_8 (by decide) ?_
    obtain ⟨r6, e_r6, h⟩ := bnd h
    refine g_callVv hX (pc := 9) (d := d + 3) hr0 [.int 2] (c := 2) (ct_X2_fail (d := d + 3) ho0 e_r6) ho0.1.1 ho0.1.2 (by decide) rfl co_X2_fail ml_X2_64 im_X2_fail sl_X2_fail ini_X2 nm_X2_fail (by decide) ⟨Nat.le_refl _, Nat.le_refl _⟩ (Nat.le_refl _) (Nat.le_of_ble_eq_true rfl) rfl dX2_readHoles_9 ?_
    obtain rfl := Option.some.inj h
    exact g_return hX (Nat.le_refl _) (Nat.le_refl _) dX2_readHoles_12
noncomputable def f_X2_readWave (o0 b0 : Nat) (o1 : Nat) (I : MI) : Option (MI) :=
  if (I o1 5) = 0 then
    (wf I o1 5 1).bind fun I2 =>
    (f_X2_advance o0 b0 I2).bind fun r3 =>
    (f_X2_readNumber o0 b0 1 8 r3).bind fun r4 =>
    (wf r4.2 o1 3 r4.1).bind fun I5 =>
    (f_X2_readNumber o0 b0 1 60 I5).bind fun r6 =>
    (wf r6.2 o1 4 r6.1).bind fun I7 =>
    some I7
  else
    (f_X2_fail o0 b0 2 I).bind fun r8 =>
    some r8
theorem nm_X2_readWave : yX2_readWave.cls ≠ "java/lang/invoke/MethodHandle" ∧ yX2_readWave.cls ≠ "java/lang/invoke/VarHandle" ∧ (parseMethodDescriptor yX2_readWave.desc).map (fun d => d.parameters.length) = some 1 := by decide +kernel
set_option maxRecDepth 100000 in
set_option maxHeartbeats 4000000 in
theorem ct_X2_readWave {E : Ev} {d : Nat} {z : Sh} {J : MJ} {I : MI} {o0 b0 : Nat} {o1 : Nat} {Iz : MI} (ho0 : oX2 z o0 b0) (ho1 : oX3 z o1) (h : f_X2_readWave o0 b0 o1 I = some Iz) : Ct E (d + 4) yX2_readWave cX2_readWave 2 none 0 0 [.ref o0, .ref o1] z J I none z J Iz := by
  unfold f_X2_readWave at h
  refine Ct.of (own := RX2) (ls := [(0, .ref o0), (1, .ref o1)]) (by decide) rfl (Nat.le_of_ble_eq_true rfl) rfl ?_
  intro X hr0 hnm hX
  refine g_aload_n hX (pc := 0) (i := 1) dX2_readWave_0 rfl 1 rfl ?_
  refine gf3_5 hX (pc := 1) ho1 fl_X2_84 dX2_readWave_1 ?_
  refine g_if_eq hX (pc := 4) dX2_readWave_4 (tgt := 13) (by decide) (fun c1 => ?_) (fun c1 => ?_)
  · replace h := ifP c1 h
    refine g_aload_n hX (pc := 13) (i := 1) dX2_readWave_13 rfl 1 rfl ?_
    refine g_iconst hX (pc := 14) (v := 1) dX2_readWave_14 (by decide) ?_
    obtain ⟨I2, e_I2, h⟩ := bnd h
    refine pf3_5 hX (pc := 15) ho1 fl_X2_84 dX2_readWave_15 e_I2 (by decide) ?_
    refine g_aload_n hX (pc := 18) (i := 0) dX2_readWave_18 rfl 0 rfl ?_
    obtain ⟨r3, e_r3, h⟩ := bnd h
    refine g_callVv hX (pc := 19) (d := d + 3) hr0 [] (c := 2) (ct_X2_advance (d := d + 1) ho0 e_r3) ho0.1.1 ho0.1.2 (by decide) rfl co_X2_advance ml_X2_45 im_X2_advance sl_X2_advance ini_X2 nm_X2_advance (by decide) ⟨Nat.le_refl _, Nat.le_refl _⟩ (Nat.le_refl _) (Nat.le_of_ble_eq_true rfl) rfl dX2_readWave_19 ?_
    refine g_aload_n hX (pc := 22) (i := 1) dX2_readWave_22 rfl 1 rfl ?_
    refine g_aload_n hX (pc := 23) (i := 0) dX2_readWave_23 rfl 0 rfl ?_
    refine g_iconst hX (pc := 24) (v := 1) dX2_readWave_24 (by decide) ?_
    refine g_bipush hX (pc := 25) (v := 8) dX2_readWave_25 (by decide) ?_
    obtain ⟨r4, e_r4, h⟩ := bnd h
    refine g_callVi hX (pc := 27) (d := d + 3) hr0 [.int 1, .int 8] (c := 2) (ct_X2_readNumber (d := d + 0) ho0 e_r4) ho0.1.1 ho0.1.2 (by decide) rfl co_X2_readNumber ml_X2_78 im_X2_readNumber sl_X2_readNumber ini_X2 nm_X2_readNumber (by decide) ⟨Nat.le_refl _, Nat.le_refl _⟩ (Nat.le_refl _) (Nat.le_of_ble_eq_true rfl) rfl dX2_readWave_27 ?_
    obtain ⟨I5, e_I5, h⟩ := bnd h
    refine pf3_3 hX (pc := 30) ho1 fl_X2_87 dX2_readWave_30 e_I5 ?_
    refine g_aload_n hX (pc := 33) (i := 1) dX2_readWave_33 rfl 1 rfl ?_
    refine g_aload_n hX (pc := 34) (i := 0) dX2_readWave_34 rfl 0 rfl ?_
    refine g_iconst hX (pc := 35) (v := 1) dX2_readWave_35 (by decide) ?_
    refine g_bipush hX (pc := 36) (v := 60) dX2_readWave_36 (by decide) ?_
    obtain ⟨r6, e_r6, h⟩ := bnd h
    refine g_callVi hX (pc := 38) (d := d + 3) hr0 [.int 1, .int 60] (c := 2) (ct_X2_readNumber (d := d + 0) ho0 e_r6) ho0.1.1 ho0.1.2 (by decide) rfl co_X2_readNumber ml_X2_78 im_X2_readNumber sl_X2_readNumber ini_X2 nm_X2_readNumber (by decide) ⟨Nat.le_refl _, Nat.le_refl _⟩ (Nat.le_refl _) (Nat.le_of_ble_eq_true rfl) rfl dX2_readWave_38 ?_
    obtain ⟨I7, e_I7, h⟩ := bnd h
    refine pf3_4 hX (pc := 41) ho1 fl_X2_90 dX2_readWave_41 e_I7 ?_
    obtain rfl := Option.some.inj h
    exact g_return hX (Nat.le_refl _) (Nat.le_refl _) dX2_readWave_44
  · replace h := ifN c1 h
    refine g_aload_n hX (pc := 7) (i := 0) dX2_readWave_7 rfl 0 rfl ?_
    refine g_iconst hX (pc := 8) (v := 2) dX2_readWave_8 (by decide) ?_
    obtain ⟨r8, e_r8, h⟩ := bnd h
    refine g_callVv hX (pc := 9) (d := d + 3) hr0 [.int 2] (c := 2) (ct_X2_fail (d := d + 3) ho0 e_r8) ho0.1.1 ho0.1.2 (by decide) rfl co_X2_fail ml_X2_64 im_X2_fail sl_X2_fail ini_X2 nm_X2_fail (by decide) ⟨Nat.le_refl _, Nat.le_refl _⟩ (Nat.le_refl _) (Nat.le_of_ble_eq_true rfl) rfl dX2_readWave_9 ?_
    obtain rfl := Option.some.inj h
    exact g_return hX (Nat.le_refl _) (Nat.le_refl _) dX2_readWave_12
noncomputable def f_X2_readItem (o0 b0 : Nat) (o1 : Nat) (I : MI) : Option (MI) :=
  if (I o1 6) < 10 then
    (f_X2_advance o0 b0 I).bind fun r2 =>
    (f_X2_readNewName o0 b0 o1 r2).bind fun r3 =>
    (f_X2_readNumber o0 b0 0 99 r3.2).bind fun r4 =>
    (f_X2_readNumber o0 b0 0 99 r4.2).bind fun r5 =>
    (if (r5.2 o0 6) = 0 then
      (f_X3_addItem o1 r3.1 r4.1 r5.1 r5.2).bind fun r8 =>
      some r8
    else
      some r5.2).bind fun (p9 : MI) =>
    some p9
  else
    (f_X2_fail o0 b0 5 I).bind fun r10 =>
    some r10
theorem nm_X2_readItem : yX2_readItem.cls ≠ "java/lang/invoke/MethodHandle" ∧ yX2_readItem.cls ≠ "java/lang/invoke/VarHandle" ∧ (parseMethodDescriptor yX2_readItem.desc).map (fun d => d.parameters.length) = some 1 := by decide +kernel
set_option maxRecDepth 100000 in
set_option maxHeartbeats 4000000 in
theorem ct_X2_readItem {E : Ev} {d : Nat} {z : Sh} {J : MJ} {I : MI} {o0 b0 : Nat} {o1 : Nat} {Iz : MI} (ho0 : oX2 z o0 b0) (ho1 : oX3 z o1) (h : f_X2_readItem o0 b0 o1 I = some Iz) : Ct E (d + 4) yX2_readItem cX2_readItem 5 none 0 0 [.ref o0, .ref o1] z J I none z J Iz := by
  unfold f_X2_readItem at h
  refine Ct.of (own := RX2) (ls := [(0, .ref o0), (1, .ref o1)]) (by decide) rfl (Nat.le_of_ble_eq_true rfl) rfl ?_
  intro X hr0 hnm hX
  refine g_aload_n hX (pc := 0) (i := 1) dX2_readItem_0 rfl 1 rfl ?_
  refine gf3_6 hX (pc := 1) ho1 fl_X2_93 dX2_readItem_1 ?_
  refine g_bipush hX (pc := 4) (v := 10) dX2_readItem_4 (by decide) ?_
  refine g_icmp_lt hX (pc := 6) dX2_readItem_6 (tgt := 15) (by decide) (fun c1 => ?_) (fun c1 => ?_)
  · replace h := ifP c1 h
    refine g_aload_n hX (pc := 15) (i := 0) dX2_readItem_15 rfl 0 rfl ?_
    obtain ⟨r2, e_r2, h⟩ := bnd h
    refine g_callVv hX (pc := 16) (d := d + 3) hr0 [] (c := 2) (ct_X2_advance (d := d + 1) ho0 e_r2) ho0.1.1 ho0.1.2 (by decide) rfl co_X2_advance ml_X2_45 im_X2_advance sl_X2_advance ini_X2 nm_X2_advance (by decide) ⟨Nat.le_refl _, Nat.le_refl _⟩ (Nat.le_refl _) (Nat.le_of_ble_eq_true rfl) rfl dX2_readItem_16 ?_
    refine g_aload_n hX (pc := 19) (i := 0) dX2_readItem_19 rfl 0 rfl ?_
    refine g_aload_n hX (pc := 20) (i := 1) dX2_readItem_20 rfl 1 rfl ?_
    obtain ⟨r3, e_r3, h⟩ := bnd h
    refine g_callVi hX (pc := 21) (d := d + 3) hr0 [.ref o1] (c := 2) (ct_X2_readNewName (d := d + 0) ho0 ho1 e_r3) ho0.1.1 ho0.1.2 (by decide) rfl co_X2_readNewName ml_X2_96 im_X2_readNewName sl_X2_readNewName ini_X2 nm_X2_readNewName (by decide) ⟨Nat.le_refl _, Nat.le_refl _⟩ (Nat.le_refl _) (Nat.le_of_ble_eq_true rfl) rfl dX2_readItem_21 ?_
    refine g_istore_n hX (pc := 24) (i := 2) (ls' := [(0, .ref o0), (1, .ref o1), (2, .int r3.1)]) [1, 2, 0] dX2_readItem_24 rfl (by decide) rfl ?_
    refine g_aload_n hX (pc := 25) (i := 0) dX2_readItem_25 rfl 0 rfl ?_
    refine g_iconst hX (pc := 26) (v := 0) dX2_readItem_26 (by decide) ?_
    refine g_bipush hX (pc := 27) (v := 99) dX2_readItem_27 (by decide) ?_
    obtain ⟨r4, e_r4, h⟩ := bnd h
    refine g_callVi hX (pc := 29) (d := d + 3) hr0 [.int 0, .int 99] (c := 2) (ct_X2_readNumber (d := d + 0) ho0 e_r4) ho0.1.1 ho0.1.2 (by decide) rfl co_X2_readNumber ml_X2_78 im_X2_readNumber sl_X2_readNumber ini_X2 nm_X2_readNumber (by decide) ⟨Nat.le_refl _, Nat.le_refl _⟩ (Nat.le_refl _) (Nat.le_of_ble_eq_true rfl) rfl dX2_readItem_29 ?_
    refine g_istore_n hX (pc := 32) (i := 3) (ls' := [(0, .ref o0), (1, .ref o1), (2, .int r3.1), (3, .int r4.1)]) [1, 2, 3, 0] dX2_readItem_32 rfl (by decide) rfl ?_
    refine g_aload_n hX (pc := 33) (i := 0) dX2_readItem_33 rfl 0 rfl ?_
    refine g_iconst hX (pc := 34) (v := 0) dX2_readItem_34 (by decide) ?_
    refine g_bipush hX (pc := 35) (v := 99) dX2_readItem_35 (by decide) ?_
    obtain ⟨r5, e_r5, h⟩ := bnd h
    refine g_callVi hX (pc := 37) (d := d + 3) hr0 [.int 0, .int 99] (c := 2) (ct_X2_readNumber (d := d + 0) ho0 e_r5) ho0.1.1 ho0.1.2 (by decide) rfl co_X2_readNumber ml_X2_78 im_X2_readNumber sl_X2_readNumber ini_X2 nm_X2_readNumber (by decide) ⟨Nat.le_refl _, Nat.le_refl _⟩ (Nat.le_refl _) (Nat.le_of_ble_eq_true rfl) rfl dX2_readItem_37 ?_
    refine g_istore hX (pc := 40) (ls' := [(0, .ref o0), (1, .ref o1), (2, .int r3.1), (3, .int r4.1), (4, .int r5.1)]) [1, 2, 3, 4, 0] dX2_readItem_40 (by decide) rfl ?_
    refine g_aload_n hX (pc := 42) (i := 0) dX2_readItem_42 rfl 0 rfl ?_
    refine gf2_6 hX (pc := 43) ho0 fl_X2_31 dX2_readItem_43 ?_
    obtain ⟨p9, hpj7, h⟩ := bnd h
    have Kj7 : ∀ qj7 : MI, qj7 = p9 → GW E X (QX E X 0 0 none z J Iz) 5 57 [(0, .ref o0), (1, .ref o1), (2, .int r3.1), (3, .int r4.1), (4, .int r5.1)] [] z J qj7 0 0 := by
      intro qj7 hqj7
      subst hqj7
      obtain rfl := Option.some.inj h
      exact g_return hX (Nat.le_refl _) (Nat.le_refl _) dX2_readItem_57
    replace h := hpj7
    clear hpj7
    refine g_if_ne hX (pc := 46) dX2_readItem_46 (tgt := 57) (by decide) (fun c6 => ?_) (fun c6 => ?_)
    · replace h := ifP c6 h
      refine g_aload_n hX (pc := 49) (i := 1) dX2_readItem_49 rfl 1 rfl ?_
      refine g_iload_n hX (pc := 50) (i := 2) dX2_readItem_50 rfl 2 rfl ?_
      refine g_iload_n hX (pc := 51) (i := 3) dX2_readItem_51 rfl 3 rfl ?_
      refine g_iload hX (pc := 52) dX2_readItem_52 4 rfl ?_
      obtain ⟨r8, e_r8, h⟩ := bnd h
      refine g_callVv hX (pc := 54) (d := d + 3) hr0 [.int r3.1, .int r4.1, .int r5.1] (c := 3) (ct_X3_addItem (d := d + 3) ho1 e_r8) ho1.1.1 ho1.1.2 (by decide) rfl co_X3_addItem ml_X2_100 im_X3_addItem sl_X3_addItem ini_X3 nm_X3_addItem (by decide) ⟨Nat.le_refl _, Nat.le_refl _⟩ (Nat.le_refl _) (Nat.le_of_ble_eq_true rfl) rfl dX2_readItem_54 ?_
      exact Kj7 r8 (Option.some.inj h)
    · replace h := ifN c6 h
      exact Kj7 r5.2 (Option.some.inj h)
  · replace h := ifN c1 h
    refine g_aload_n hX (pc := 9) (i := 0) dX2_readItem_9 rfl 0 rfl ?_
    refine g_iconst hX (pc := 10) (v := 5) dX2_readItem_10 (by decide) ?_
    obtain ⟨r10, e_r10, h⟩ := bnd h
    refine g_callVv hX (pc := 11) (d := d + 3) hr0 [.int 5] (c := 2) (ct_X2_fail (d := d + 3) ho0 e_r10) ho0.1.1 ho0.1.2 (by decide) rfl co_X2_fail ml_X2_64 im_X2_fail sl_X2_fail ini_X2 nm_X2_fail (by decide) ⟨Nat.le_refl _, Nat.le_refl _⟩ (Nat.le_refl _) (Nat.le_of_ble_eq_true rfl) rfl dX2_readItem_11 ?_
    obtain rfl := Option.some.inj h
    exact g_return hX (Nat.le_refl _) (Nat.le_refl _) dX2_readItem_14
noncomputable def f_X2_readUnits (o0 b0 : Nat) (o1 : Nat) (x2 : Int32) (I : MI) : Option (MI) :=
  (rd 16 (I (o1 + 8)) x2).bind fun v1 =>
  (f_X2_readItemOf o0 b0 o1 v1 I).bind fun r2 =>
  (f_X2_readNumber o0 b0 1 9 r2.2).bind fun r3 =>
  (if (r3.2 o0 6) = 0 then
    (f_X3_addUnits o1 x2 r2.1 r3.1 r3.2).bind fun r6 =>
    some r6
  else
    some r3.2).bind fun (p7 : MI) =>
  some p7
theorem nm_X2_readUnits : yX2_readUnits.cls ≠ "java/lang/invoke/MethodHandle" ∧ yX2_readUnits.cls ≠ "java/lang/invoke/VarHandle" ∧ (parseMethodDescriptor yX2_readUnits.desc).map (fun d => d.parameters.length) = some 2 := by decide +kernel
set_option maxRecDepth 100000 in
set_option maxHeartbeats 4000000 in
theorem ct_X2_readUnits {E : Ev} {d : Nat} {z : Sh} {J : MJ} {I : MI} {o0 b0 : Nat} {o1 : Nat} {x2 : Int32} {Iz : MI} (ho0 : oX2 z o0 b0) (ho1 : oX3 z o1) (h : f_X2_readUnits o0 b0 o1 x2 I = some Iz) : Ct E (d + 4) yX2_readUnits cX2_readUnits 5 none 0 0 [.ref o0, .ref o1, .int x2] z J I none z J Iz := by
  unfold f_X2_readUnits at h
  refine Ct.of (own := RX2) (ls := [(0, .ref o0), (1, .ref o1), (2, .int x2)]) (by decide) rfl (Nat.le_of_ble_eq_true rfl) rfl ?_
  intro X hr0 hnm hX
  refine g_aload_n hX (pc := 0) (i := 0) dX2_readUnits_0 rfl 0 rfl ?_
  refine g_aload_n hX (pc := 1) (i := 1) dX2_readUnits_1 rfl 1 rfl ?_
  refine g_aload_n hX (pc := 2) (i := 1) dX2_readUnits_2 rfl 1 rfl ?_
  refine gf3_15 hX (pc := 3) ho1 fl_X2_115 dX2_readUnits_3 ?_
  refine g_iload_n hX (pc := 6) (i := 2) dX2_readUnits_6 rfl 2 rfl ?_
  obtain ⟨v1, e_v1, h⟩ := bnd h
  refine g_ialoadE hX (pc := 7) (s3_15 ho1).1 (s3_15 ho1).2.1 (s3_15 ho1).2.2.1 e_v1 dX2_readUnits_7 ?_
  obtain ⟨r2, e_r2, h⟩ := bnd h
  refine g_callVi hX (pc := 8) (d := d + 3) hr0 [.ref o1, .int v1] (c := 2) (ct_X2_readItemOf (d := d + 0) ho0 ho1 e_r2) ho0.1.1 ho0.1.2 (by decide) rfl co_X2_readItemOf ml_X2_119 im_X2_readItemOf sl_X2_readItemOf ini_X2 nm_X2_readItemOf (by decide) ⟨Nat.le_refl _, Nat.le_refl _⟩ (Nat.le_refl _) (Nat.le_of_ble_eq_true rfl) rfl dX2_readUnits_8 ?_
  refine g_istore_n hX (pc := 11) (i := 3) (ls' := [(0, .ref o0), (1, .ref o1), (2, .int x2), (3, .int r2.1)]) [1, 2, 3, 0] dX2_readUnits_11 rfl (by decide) rfl ?_
  refine g_aload_n hX (pc := 12) (i := 0) dX2_readUnits_12 rfl 0 rfl ?_
  refine g_iconst hX (pc := 13) (v := 1) dX2_readUnits_13 (by decide) ?_
  refine g_bipush hX (pc := 14) (v := 9) dX2_readUnits_14 (by decide) ?_
  obtain ⟨r3, e_r3, h⟩ := bnd h
  refine g_callVi hX (pc := 16) (d := d + 3) hr0 [.int 1, .int 9] (c := 2) (ct_X2_readNumber (d := d + 0) ho0 e_r3) ho0.1.1 ho0.1.2 (by decide) rfl co_X2_readNumber ml_X2_78 im_X2_readNumber sl_X2_readNumber ini_X2 nm_X2_readNumber (by decide) ⟨Nat.le_refl _, Nat.le_refl _⟩ (Nat.le_refl _) (Nat.le_of_ble_eq_true rfl) rfl dX2_readUnits_16 ?_
  refine g_istore hX (pc := 19) (ls' := [(0, .ref o0), (1, .ref o1), (2, .int x2), (3, .int r2.1), (4, .int r3.1)]) [1, 2, 3, 4, 0] dX2_readUnits_19 (by decide) rfl ?_
  refine g_aload_n hX (pc := 21) (i := 0) dX2_readUnits_21 rfl 0 rfl ?_
  refine gf2_6 hX (pc := 22) ho0 fl_X2_31 dX2_readUnits_22 ?_
  obtain ⟨p7, hpj5, h⟩ := bnd h
  have Kj5 : ∀ qj5 : MI, qj5 = p7 → GW E X (QX E X 0 0 none z J Iz) 5 36 [(0, .ref o0), (1, .ref o1), (2, .int x2), (3, .int r2.1), (4, .int r3.1)] [] z J qj5 0 0 := by
    intro qj5 hqj5
    subst hqj5
    obtain rfl := Option.some.inj h
    exact g_return hX (Nat.le_refl _) (Nat.le_refl _) dX2_readUnits_36
  replace h := hpj5
  clear hpj5
  refine g_if_ne hX (pc := 25) dX2_readUnits_25 (tgt := 36) (by decide) (fun c4 => ?_) (fun c4 => ?_)
  · replace h := ifP c4 h
    refine g_aload_n hX (pc := 28) (i := 1) dX2_readUnits_28 rfl 1 rfl ?_
    refine g_iload_n hX (pc := 29) (i := 2) dX2_readUnits_29 rfl 2 rfl ?_
    refine g_iload_n hX (pc := 30) (i := 3) dX2_readUnits_30 rfl 3 rfl ?_
    refine g_iload hX (pc := 31) dX2_readUnits_31 4 rfl ?_
    obtain ⟨r6, e_r6, h⟩ := bnd h
    refine g_callVv hX (pc := 33) (d := d + 3) hr0 [.int x2, .int r2.1, .int r3.1] (c := 3) (ct_X3_addUnits (d := d + 2) ho1 e_r6) ho1.1.1 ho1.1.2 (by decide) rfl co_X3_addUnits ml_X2_123 im_X3_addUnits sl_X3_addUnits ini_X3 nm_X3_addUnits (by decide) ⟨Nat.le_refl _, Nat.le_refl _⟩ (Nat.le_refl _) (Nat.le_of_ble_eq_true rfl) rfl dX2_readUnits_33 ?_
    exact Kj5 r6 (Option.some.inj h)
  · replace h := ifN c4 h
    exact Kj5 r3.2 (Option.some.inj h)
noncomputable def b_X2_readOrder_63 (o0 : Nat) (b0 : Nat) (o1 : Nat) (r4 : Int32 × MI) (s : Int32 × MI) : Option ((Int32 × MI) ⊕ (Int32 × MI)) :=
  if s.1 < 6 then
    if (s.2 o0 6) = 0 then
      if (s.2 o0 3) = 3 then
        some (.inr ((s.1, s.2)))
      else
        (f_X2_readUnits o0 b0 o1 (r4.2 o1 10) s.2).bind fun r14 =>
        some (.inl ((s.1 + 1, r14)))
    else
      some (.inr ((s.1, s.2)))
  else
    some (.inr ((s.1, s.2)))
noncomputable def f_X2_readOrder (o0 b0 : Nat) (o1 : Nat) (I : MI) : Option (MI) :=
  if (I o1 10) < 16 then
    (f_X2_advance o0 b0 I).bind fun r2 =>
    (f_X2_readNewName o0 b0 o1 r2).bind fun r3 =>
    (f_X2_readNumber o0 b0 0 99 r3.2).bind fun r4 =>
    if (r4.2 o0 6) = 0 then
      (f_X3_addOrder o1 r3.1 r4.1 r4.2).bind fun r6 =>
      (f_X2_readUnits o0 b0 o1 (r4.2 o1 10) r6).bind fun r7 =>
      (lp (b_X2_readOrder_63 o0 b0 o1 r4) ((0, r7))).bind fun p15 =>
      some p15.2
    else
      some r4.2
  else
    (f_X2_fail o0 b0 5 I).bind fun r16 =>
    some r16
theorem nm_X2_readOrder : yX2_readOrder.cls ≠ "java/lang/invoke/MethodHandle" ∧ yX2_readOrder.cls ≠ "java/lang/invoke/VarHandle" ∧ (parseMethodDescriptor yX2_readOrder.desc).map (fun d => d.parameters.length) = some 1 := by decide +kernel
set_option maxRecDepth 100000 in
set_option maxHeartbeats 4000000 in
theorem ct_X2_readOrder {E : Ev} {d : Nat} {z : Sh} {J : MJ} {I : MI} {o0 b0 : Nat} {o1 : Nat} {Iz : MI} (ho0 : oX2 z o0 b0) (ho1 : oX3 z o1) (h : f_X2_readOrder o0 b0 o1 I = some Iz) : Ct E (d + 5) yX2_readOrder cX2_readOrder 6 none 0 0 [.ref o0, .ref o1] z J I none z J Iz := by
  unfold f_X2_readOrder at h
  refine Ct.of (own := RX2) (ls := [(0, .ref o0), (1, .ref o1)]) (by decide) rfl (Nat.le_of_ble_eq_true rfl) rfl ?_
  intro X hr0 hnm hX
  refine g_aload_n hX (pc := 0) (i := 1) dX2_readOrder_0 rfl 1 rfl ?_
  refine gf3_10 hX (pc := 1) ho1 fl_X2_104 dX2_readOrder_1 ?_
  refine g_bipush hX (pc := 4) (v := 16) dX2_readOrder_4 (by decide) ?_
  refine g_icmp_lt hX (pc := 6) dX2_readOrder_6 (tgt := 15) (by decide) (fun c1 => ?_) (fun c1 => ?_)
  · replace h := ifP c1 h
    refine g_aload_n hX (pc := 15) (i := 0) dX2_readOrder_15 rfl 0 rfl ?_
    obtain ⟨r2, e_r2, h⟩ := bnd h
    refine g_callVv hX (pc := 16) (d := d + 4) hr0 [] (c := 2) (ct_X2_advance (d := d + 2) ho0 e_r2) ho0.1.1 ho0.1.2 (by decide) rfl co_X2_advance ml_X2_45 im_X2_advance sl_X2_advance ini_X2 nm_X2_advance (by decide) ⟨Nat.le_refl _, Nat.le_refl _⟩ (Nat.le_refl _) (Nat.le_of_ble_eq_true rfl) rfl dX2_readOrder_16 ?_
    refine g_aload_n hX (pc := 19) (i := 0) dX2_readOrder_19 rfl 0 rfl ?_
    refine g_aload_n hX (pc := 20) (i := 1) dX2_readOrder_20 rfl 1 rfl ?_
    obtain ⟨r3, e_r3, h⟩ := bnd h
    refine g_callVi hX (pc := 21) (d := d + 4) hr0 [.ref o1] (c := 2) (ct_X2_readNewName (d := d + 1) ho0 ho1 e_r3) ho0.1.1 ho0.1.2 (by decide) rfl co_X2_readNewName ml_X2_96 im_X2_readNewName sl_X2_readNewName ini_X2 nm_X2_readNewName (by decide) ⟨Nat.le_refl _, Nat.le_refl _⟩ (Nat.le_refl _) (Nat.le_of_ble_eq_true rfl) rfl dX2_readOrder_21 ?_
    refine g_istore_n hX (pc := 24) (i := 2) (ls' := [(0, .ref o0), (1, .ref o1), (2, .int r3.1)]) [1, 2, 0] dX2_readOrder_24 rfl (by decide) rfl ?_
    refine g_aload_n hX (pc := 25) (i := 0) dX2_readOrder_25 rfl 0 rfl ?_
    refine g_iconst hX (pc := 26) (v := 0) dX2_readOrder_26 (by decide) ?_
    refine g_bipush hX (pc := 27) (v := 99) dX2_readOrder_27 (by decide) ?_
    obtain ⟨r4, e_r4, h⟩ := bnd h
    refine g_callVi hX (pc := 29) (d := d + 4) hr0 [.int 0, .int 99] (c := 2) (ct_X2_readNumber (d := d + 1) ho0 e_r4) ho0.1.1 ho0.1.2 (by decide) rfl co_X2_readNumber ml_X2_78 im_X2_readNumber sl_X2_readNumber ini_X2 nm_X2_readNumber (by decide) ⟨Nat.le_refl _, Nat.le_refl _⟩ (Nat.le_refl _) (Nat.le_of_ble_eq_true rfl) rfl dX2_readOrder_29 ?_
    refine g_istore_n hX (pc := 32) (i := 3) (ls' := [(0, .ref o0), (1, .ref o1), (2, .int r3.1), (3, .int r4.1)]) [1, 2, 3, 0] dX2_readOrder_32 rfl (by decide) rfl ?_
    refine g_aload_n hX (pc := 33) (i := 0) dX2_readOrder_33 rfl 0 rfl ?_
    refine gf2_6 hX (pc := 34) ho0 fl_X2_31 dX2_readOrder_34 ?_
    refine g_if_eq hX (pc := 37) dX2_readOrder_37 (tgt := 41) (by decide) (fun c5 => ?_) (fun c5 => ?_)
    · replace h := ifP c5 h
      refine g_aload_n hX (pc := 41) (i := 1) dX2_readOrder_41 rfl 1 rfl ?_
      refine gf3_10 hX (pc := 42) ho1 fl_X2_104 dX2_readOrder_42 ?_
      refine g_istore hX (pc := 45) (ls' := [(0, .ref o0), (1, .ref o1), (2, .int r3.1), (3, .int r4.1), (4, .int (r4.2 o1 10))]) [1, 2, 3, 4, 0] dX2_readOrder_45 (by decide) rfl ?_
      refine g_aload_n hX (pc := 47) (i := 1) dX2_readOrder_47 rfl 1 rfl ?_
      refine g_iload_n hX (pc := 48) (i := 2) dX2_readOrder_48 rfl 2 rfl ?_
      refine g_iload_n hX (pc := 49) (i := 3) dX2_readOrder_49 rfl 3 rfl ?_
      obtain ⟨r6, e_r6, h⟩ := bnd h
      refine g_callVv hX (pc := 50) (d := d + 4) hr0 [.int r3.1, .int r4.1] (c := 3) (ct_X3_addOrder (d := d + 4) ho1 e_r6) ho1.1.1 ho1.1.2 (by decide) rfl co_X3_addOrder ml_X2_107 im_X3_addOrder sl_X3_addOrder ini_X3 nm_X3_addOrder (by decide) ⟨Nat.le_refl _, Nat.le_refl _⟩ (Nat.le_refl _) (Nat.le_of_ble_eq_true rfl) rfl dX2_readOrder_50 ?_
      refine g_aload_n hX (pc := 53) (i := 0) dX2_readOrder_53 rfl 0 rfl ?_
      refine g_aload_n hX (pc := 54) (i := 1) dX2_readOrder_54 rfl 1 rfl ?_
      refine g_iload hX (pc := 55) dX2_readOrder_55 4 rfl ?_
      obtain ⟨r7, e_r7, h⟩ := bnd h
      refine g_callVv hX (pc := 57) (d := d + 4) hr0 [.ref o1, .int (r4.2 o1 10)] (c := 2) (ct_X2_readUnits (d := d + 0) ho0 ho1 e_r7) ho0.1.1 ho0.1.2 (by decide) rfl co_X2_readUnits ml_X2_111 im_X2_readUnits sl_X2_readUnits ini_X2 nm_X2_readUnits (by decide) ⟨Nat.le_refl _, Nat.le_refl _⟩ (Nat.le_refl _) (Nat.le_of_ble_eq_true rfl) rfl dX2_readOrder_57 ?_
      refine g_iconst hX (pc := 60) (v := 0) dX2_readOrder_60 (by decide) ?_
      refine g_istore hX (pc := 61) (ls' := [(0, .ref o0), (1, .ref o1), (2, .int r3.1), (3, .int r4.1), (4, .int (r4.2 o1 10)), (5, .int 0)]) [1, 2, 3, 4, 5, 0] dX2_readOrder_61 (by decide) rfl ?_
      obtain ⟨p15, hpl10, h⟩ := bnd h
      have Kl10 : ∀ ql10 : Int32 × MI, ql10 = p15 → GW E X (QX E X 0 0 none z J Iz) 6 98 [(0, .ref o0), (1, .ref o1), (2, .int r3.1), (3, .int r4.1), (4, .int (r4.2 o1 10)), (5, .int ql10.1)] [] z J ql10.2 0 0 := by
        intro ql10 hql10
        subst hql10
        obtain rfl := Option.some.inj h
        exact g_return hX (Nat.le_refl _) (Nat.le_refl _) dX2_readOrder_98
      obtain ⟨kl10, hkl10⟩ := lp_ex hpl10
      clear hpl10 h
      have Ll10 : ∀ k : Nat, ∀ (s8 : Int32) (I9 : MI), lpN k (b_X2_readOrder_63 o0 b0 o1 r4) ((s8, I9)) = some p15 → GW E X (QX E X 0 0 none z J Iz) 6 63 [(0, .ref o0), (1, .ref o1), (2, .int r3.1), (3, .int r4.1), (4, .int (r4.2 o1 10)), (5, .int s8)] [] z J I9 0 0 := by
        intro k
        induction k with
        | zero => intro s8 I9 h; cases h
        | succ k ihl10 =>
          intro s8 I9 h
          obtain ⟨wl10, h, hwl10⟩ := lpN_s h
          unfold b_X2_readOrder_63 at h
          try dsimp only at h
          refine g_iload hX (pc := 63) dX2_readOrder_63 5 rfl ?_
          refine g_bipush hX (pc := 65) (v := 6) dX2_readOrder_65 (by decide) ?_
          refine g_icmp_ge hX (pc := 67) dX2_readOrder_67 (tgt := 98) (by decide) (fun c11 => ?_) (fun c11 => ?_)
          · replace h := ifP c11 h
            refine g_aload_n hX (pc := 70) (i := 0) dX2_readOrder_70 rfl 0 rfl ?_
            refine gf2_6 hX (pc := 71) ho0 fl_X2_31 dX2_readOrder_71 ?_
            refine g_if_ne hX (pc := 74) dX2_readOrder_74 (tgt := 98) (by decide) (fun c12 => ?_) (fun c12 => ?_)
            · replace h := ifP c12 h
              refine g_aload_n hX (pc := 77) (i := 0) dX2_readOrder_77 rfl 0 rfl ?_
              refine gf2_3 hX (pc := 78) ho0 fl_X2_22 dX2_readOrder_78 ?_
              refine g_iconst hX (pc := 81) (v := 3) dX2_readOrder_81 (by decide) ?_
              refine g_icmp_eq hX (pc := 82) dX2_readOrder_82 (tgt := 98) (by decide) (fun c13 => ?_) (fun c13 => ?_)
              · replace h := ifP c13 h
                obtain rfl := Option.some.inj h
                exact Kl10 ((s8, I9)) hwl10
              · replace h := ifN c13 h
                refine g_aload_n hX (pc := 85) (i := 0) dX2_readOrder_85 rfl 0 rfl ?_
                refine g_aload_n hX (pc := 86) (i := 1) dX2_readOrder_86 rfl 1 rfl ?_
                refine g_iload hX (pc := 87) dX2_readOrder_87 4 rfl ?_
                obtain ⟨r14, e_r14, h⟩ := bnd h
                refine g_callVv hX (pc := 89) (d := d + 4) hr0 [.ref o1, .int (r4.2 o1 10)] (c := 2) (ct_X2_readUnits (d := d + 0) ho0 ho1 e_r14) ho0.1.1 ho0.1.2 (by decide) rfl co_X2_readUnits ml_X2_111 im_X2_readUnits sl_X2_readUnits ini_X2 nm_X2_readUnits (by decide) ⟨Nat.le_refl _, Nat.le_refl _⟩ (Nat.le_refl _) (Nat.le_of_ble_eq_true rfl) rfl dX2_readOrder_89 ?_
                refine g_iinc hX (pc := 92) (i := 5) (v := s8 + 1) (ls' := [(0, .ref o0), (1, .ref o1), (2, .int r3.1), (3, .int r4.1), (4, .int (r4.2 o1 10)), (5, .int (s8 + 1))]) 5 [1, 2, 3, 4, 5, 0] dX2_readOrder_92 rfl (by rfl) (by decide) rfl ?_
                refine g_goto hX (pc := 95) (tgt := 63) dX2_readOrder_95 (by decide) ?_
                obtain rfl := Option.some.inj h
                exact ihl10 (s8 + 1) r14 hwl10
            · replace h := ifN c12 h
              obtain rfl := Option.some.inj h
              exact Kl10 ((s8, I9)) hwl10
          · replace h := ifN c11 h
            obtain rfl := Option.some.inj h
            exact Kl10 ((s8, I9)) hwl10
      exact Ll10 kl10 0 r7 hkl10
    · replace h := ifN c5 h
      obtain rfl := Option.some.inj h
      exact g_return hX (Nat.le_refl _) (Nat.le_refl _) dX2_readOrder_40
  · replace h := ifN c1 h
    refine g_aload_n hX (pc := 9) (i := 0) dX2_readOrder_9 rfl 0 rfl ?_
    refine g_iconst hX (pc := 10) (v := 5) dX2_readOrder_10 (by decide) ?_
    obtain ⟨r16, e_r16, h⟩ := bnd h
    refine g_callVv hX (pc := 11) (d := d + 4) hr0 [.int 5] (c := 2) (ct_X2_fail (d := d + 4) ho0 e_r16) ho0.1.1 ho0.1.2 (by decide) rfl co_X2_fail ml_X2_64 im_X2_fail sl_X2_fail ini_X2 nm_X2_fail (by decide) ⟨Nat.le_refl _, Nat.le_refl _⟩ (Nat.le_refl _) (Nat.le_of_ble_eq_true rfl) rfl dX2_readOrder_11 ?_
    obtain rfl := Option.some.inj h
    exact g_return hX (Nat.le_refl _) (Nat.le_refl _) dX2_readOrder_14
noncomputable def f_X2_readLine (o0 b0 : Nat) (o1 : Nat) (I : MI) : Option (MI) :=
  (if (I o0 3) = 1 then
    some (I o0 5)
  else
    some 0).bind fun (p3 : Int32) =>
  if p3 = 315565 then
    (f_X2_readItem o0 b0 o1 I).bind fun r5 =>
    (f_X2_readClose o0 b0 r5).bind fun r6 =>
    (wf r6 o1 0 ((r6 o1 0) + 1)).bind fun I7 =>
    some I7
  else
    if p3 = 755397 then
      (f_X2_readWave o0 b0 o1 I).bind fun r9 =>
      (f_X2_readClose o0 b0 r9).bind fun r10 =>
      (wf r10 o1 0 ((r10 o1 0) + 1)).bind fun I11 =>
      some I11
    else
      if p3 = 8892595 then
        (f_X2_readHoles o0 b0 o1 I).bind fun r13 =>
        (f_X2_readClose o0 b0 r13).bind fun r14 =>
        (wf r14 o1 0 ((r14 o1 0) + 1)).bind fun I15 =>
        some I15
      else
        if p3 = 16322738 then
          (f_X2_readOrder o0 b0 o1 I).bind fun r17 =>
          (f_X2_readClose o0 b0 r17).bind fun r18 =>
          (wf r18 o1 0 ((r18 o1 0) + 1)).bind fun I19 =>
          some I19
        else
          (f_X2_fail o0 b0 1 I).bind fun r20 =>
          (f_X2_readClose o0 b0 r20).bind fun r21 =>
          (wf r21 o1 0 ((r21 o1 0) + 1)).bind fun I22 =>
          some I22
theorem nm_X2_readLine : yX2_readLine.cls ≠ "java/lang/invoke/MethodHandle" ∧ yX2_readLine.cls ≠ "java/lang/invoke/VarHandle" ∧ (parseMethodDescriptor yX2_readLine.desc).map (fun d => d.parameters.length) = some 1 := by decide +kernel
set_option maxRecDepth 100000 in
set_option maxHeartbeats 4000000 in
theorem ct_X2_readLine {E : Ev} {d : Nat} {z : Sh} {J : MJ} {I : MI} {o0 b0 : Nat} {o1 : Nat} {Iz : MI} (ho0 : oX2 z o0 b0) (ho1 : oX3 z o1) (h : f_X2_readLine o0 b0 o1 I = some Iz) : Ct E (d + 6) yX2_readLine cX2_readLine 3 none 0 0 [.ref o0, .ref o1] z J I none z J Iz := by
  unfold f_X2_readLine at h
  refine Ct.of (own := RX2) (ls := [(0, .ref o0), (1, .ref o1)]) (by decide) rfl (Nat.le_of_ble_eq_true rfl) rfl ?_
  intro X hr0 hnm hX
  refine g_aload_n hX (pc := 0) (i := 0) dX2_readLine_0 rfl 0 rfl ?_
  refine gf2_3 hX (pc := 1) ho0 fl_X2_22 dX2_readLine_1 ?_
  refine g_iconst hX (pc := 4) (v := 1) dX2_readLine_4 (by decide) ?_
  obtain ⟨p3, hpj2, h⟩ := bnd h
  have Kj2 : ∀ qj2 : Int32, qj2 = p3 → GW E X (QX E X 0 0 none z J Iz) 3 16 [(0, .ref o0), (1, .ref o1)] [.int qj2] z J I 0 0 := by
    intro qj2 hqj2
    subst hqj2
    refine g_istore_n hX (pc := 16) (i := 2) (ls' := [(0, .ref o0), (1, .ref o1), (2, .int qj2)]) [1, 2, 0] dX2_readLine_16 rfl (by decide) rfl ?_
    refine g_iload_n hX (pc := 17) (i := 2) dX2_readLine_17 rfl 2 rfl ?_
    by_cases c4 : qj2 = 315565
    · replace h := ifP c4 h
      refine g_lookup hX (pc := 18) (tgt := 76) (off := 58) dX2_readLine_18 (by decide) (by rw [c4]; decide) (by decide) ?_
      refine g_aload_n hX (pc := 76) (i := 0) dX2_readLine_76 rfl 0 rfl ?_
      refine g_aload_n hX (pc := 77) (i := 1) dX2_readLine_77 rfl 1 rfl ?_
      obtain ⟨r5, e_r5, h⟩ := bnd h
      refine g_callVv hX (pc := 78) (d := d + 5) hr0 [.ref o1] (c := 2) (ct_X2_readItem (d := d + 1) ho0 ho1 e_r5) ho0.1.1 ho0.1.2 (by decide) rfl co_X2_readItem ml_X2_58 im_X2_readItem sl_X2_readItem ini_X2 nm_X2_readItem (by decide) ⟨Nat.le_refl _, Nat.le_refl _⟩ (Nat.le_refl _) (Nat.le_of_ble_eq_true rfl) rfl dX2_readLine_78 ?_
      refine g_goto hX (pc := 81) (tgt := 97) dX2_readLine_81 (by decide) ?_
      refine g_aload_n hX (pc := 97) (i := 0) dX2_readLine_97 rfl 0 rfl ?_
      obtain ⟨r6, e_r6, h⟩ := bnd h
      refine g_callVv hX (pc := 98) (d := d + 5) hr0 [] (c := 2) (ct_X2_readClose (d := d + 2) ho0 e_r6) ho0.1.1 ho0.1.2 (by decide) rfl co_X2_readClose ml_X2_68 im_X2_readClose sl_X2_readClose ini_X2 nm_X2_readClose (by decide) ⟨Nat.le_refl _, Nat.le_refl _⟩ (Nat.le_refl _) (Nat.le_of_ble_eq_true rfl) rfl dX2_readLine_98 ?_
      refine g_aload_n hX (pc := 101) (i := 1) dX2_readLine_101 rfl 1 rfl ?_
      refine g_dup hX (pc := 102) dX2_readLine_102 rfl ?_
      refine gf3_0 hX (pc := 103) ho1 fl_X2_71 dX2_readLine_103 ?_
      refine g_iconst hX (pc := 106) (v := 1) dX2_readLine_106 (by decide) ?_
      refine g_iadd hX (pc := 107) dX2_readLine_107 ?_
      obtain ⟨I7, e_I7, h⟩ := bnd h
      refine pf3_0 hX (pc := 108) ho1 fl_X2_71 dX2_readLine_108 e_I7 ?_
      obtain rfl := Option.some.inj h
      exact g_return hX (Nat.le_refl _) (Nat.le_refl _) dX2_readLine_111
    · replace h := ifN c4 h
      by_cases c8 : qj2 = 755397
      · replace h := ifP c8 h
        refine g_lookup hX (pc := 18) (tgt := 68) (off := 50) dX2_readLine_18 (by decide) (by rw [c8]; decide) (by decide) ?_
        refine g_aload_n hX (pc := 68) (i := 0) dX2_readLine_68 rfl 0 rfl ?_
        refine g_aload_n hX (pc := 69) (i := 1) dX2_readLine_69 rfl 1 rfl ?_
        obtain ⟨r9, e_r9, h⟩ := bnd h
        refine g_callVv hX (pc := 70) (d := d + 5) hr0 [.ref o1] (c := 2) (ct_X2_readWave (d := d + 1) ho0 ho1 e_r9) ho0.1.1 ho0.1.2 (by decide) rfl co_X2_readWave ml_X2_55 im_X2_readWave sl_X2_readWave ini_X2 nm_X2_readWave (by decide) ⟨Nat.le_refl _, Nat.le_refl _⟩ (Nat.le_refl _) (Nat.le_of_ble_eq_true rfl) rfl dX2_readLine_70 ?_
        refine g_goto hX (pc := 73) (tgt := 97) dX2_readLine_73 (by decide) ?_
        refine g_aload_n hX (pc := 97) (i := 0) dX2_readLine_97 rfl 0 rfl ?_
        obtain ⟨r10, e_r10, h⟩ := bnd h
        refine g_callVv hX (pc := 98) (d := d + 5) hr0 [] (c := 2) (ct_X2_readClose (d := d + 2) ho0 e_r10) ho0.1.1 ho0.1.2 (by decide) rfl co_X2_readClose ml_X2_68 im_X2_readClose sl_X2_readClose ini_X2 nm_X2_readClose (by decide) ⟨Nat.le_refl _, Nat.le_refl _⟩ (Nat.le_refl _) (Nat.le_of_ble_eq_true rfl) rfl dX2_readLine_98 ?_
        refine g_aload_n hX (pc := 101) (i := 1) dX2_readLine_101 rfl 1 rfl ?_
        refine g_dup hX (pc := 102) dX2_readLine_102 rfl ?_
        refine gf3_0 hX (pc := 103) ho1 fl_X2_71 dX2_readLine_103 ?_
        refine g_iconst hX (pc := 106) (v := 1) dX2_readLine_106 (by decide) ?_
        refine g_iadd hX (pc := 107) dX2_readLine_107 ?_
        obtain ⟨I11, e_I11, h⟩ := bnd h
        refine pf3_0 hX (pc := 108) ho1 fl_X2_71 dX2_readLine_108 e_I11 ?_
        obtain rfl := Option.some.inj h
        exact g_return hX (Nat.le_refl _) (Nat.le_refl _) dX2_readLine_111
      · replace h := ifN c8 h
        by_cases c12 : qj2 = 8892595
        · replace h := ifP c12 h
          refine g_lookup hX (pc := 18) (tgt := 60) (off := 42) dX2_readLine_18 (by decide) (by rw [c12]; decide) (by decide) ?_
          refine g_aload_n hX (pc := 60) (i := 0) dX2_readLine_60 rfl 0 rfl ?_
          refine g_aload_n hX (pc := 61) (i := 1) dX2_readLine_61 rfl 1 rfl ?_
          obtain ⟨r13, e_r13, h⟩ := bnd h
          refine g_callVv hX (pc := 62) (d := d + 5) hr0 [.ref o1] (c := 2) (ct_X2_readHoles (d := d + 1) ho0 ho1 e_r13) ho0.1.1 ho0.1.2 (by decide) rfl co_X2_readHoles ml_X2_52 im_X2_readHoles sl_X2_readHoles ini_X2 nm_X2_readHoles (by decide) ⟨Nat.le_refl _, Nat.le_refl _⟩ (Nat.le_refl _) (Nat.le_of_ble_eq_true rfl) rfl dX2_readLine_62 ?_
          refine g_goto hX (pc := 65) (tgt := 97) dX2_readLine_65 (by decide) ?_
          refine g_aload_n hX (pc := 97) (i := 0) dX2_readLine_97 rfl 0 rfl ?_
          obtain ⟨r14, e_r14, h⟩ := bnd h
          refine g_callVv hX (pc := 98) (d := d + 5) hr0 [] (c := 2) (ct_X2_readClose (d := d + 2) ho0 e_r14) ho0.1.1 ho0.1.2 (by decide) rfl co_X2_readClose ml_X2_68 im_X2_readClose sl_X2_readClose ini_X2 nm_X2_readClose (by decide) ⟨Nat.le_refl _, Nat.le_refl _⟩ (Nat.le_refl _) (Nat.le_of_ble_eq_true rfl) rfl dX2_readLine_98 ?_
          refine g_aload_n hX (pc := 101) (i := 1) dX2_readLine_101 rfl 1 rfl ?_
          refine g_dup hX (pc := 102) dX2_readLine_102 rfl ?_
          refine gf3_0 hX (pc := 103) ho1 fl_X2_71 dX2_readLine_103 ?_
          refine g_iconst hX (pc := 106) (v := 1) dX2_readLine_106 (by decide) ?_
          refine g_iadd hX (pc := 107) dX2_readLine_107 ?_
          obtain ⟨I15, e_I15, h⟩ := bnd h
          refine pf3_0 hX (pc := 108) ho1 fl_X2_71 dX2_readLine_108 e_I15 ?_
          obtain rfl := Option.some.inj h
          exact g_return hX (Nat.le_refl _) (Nat.le_refl _) dX2_readLine_111
        · replace h := ifN c12 h
          by_cases c16 : qj2 = 16322738
          · replace h := ifP c16 h
            refine g_lookup hX (pc := 18) (tgt := 84) (off := 66) dX2_readLine_18 (by decide) (by rw [c16]; decide) (by decide) ?_
            refine g_aload_n hX (pc := 84) (i := 0) dX2_readLine_84 rfl 0 rfl ?_
            refine g_aload_n hX (pc := 85) (i := 1) dX2_readLine_85 rfl 1 rfl ?_
            obtain ⟨r17, e_r17, h⟩ := bnd h
            refine g_callVv hX (pc := 86) (d := d + 5) hr0 [.ref o1] (c := 2) (ct_X2_readOrder (d := d + 0) ho0 ho1 e_r17) ho0.1.1 ho0.1.2 (by decide) rfl co_X2_readOrder ml_X2_61 im_X2_readOrder sl_X2_readOrder ini_X2 nm_X2_readOrder (by decide) ⟨Nat.le_refl _, Nat.le_refl _⟩ (Nat.le_refl _) (Nat.le_of_ble_eq_true rfl) rfl dX2_readLine_86 ?_
            refine g_goto hX (pc := 89) (tgt := 97) dX2_readLine_89 (by decide) ?_
            refine g_aload_n hX (pc := 97) (i := 0) dX2_readLine_97 rfl 0 rfl ?_
            obtain ⟨r18, e_r18, h⟩ := bnd h
            refine g_callVv hX (pc := 98) (d := d + 5) hr0 [] (c := 2) (ct_X2_readClose (d := d + 2) ho0 e_r18) ho0.1.1 ho0.1.2 (by decide) rfl co_X2_readClose ml_X2_68 im_X2_readClose sl_X2_readClose ini_X2 nm_X2_readClose (by decide) ⟨Nat.le_refl _, Nat.le_refl _⟩ (Nat.le_refl _) (Nat.le_of_ble_eq_true rfl) rfl dX2_readLine_98 ?_
            refine g_aload_n hX (pc := 101) (i := 1) dX2_readLine_101 rfl 1 rfl ?_
            refine g_dup hX (pc := 102) dX2_readLine_102 rfl ?_
            refine gf3_0 hX (pc := 103) ho1 fl_X2_71 dX2_readLine_103 ?_
            refine g_iconst hX (pc := 106) (v := 1) dX2_readLine_106 (by decide) ?_
            refine g_iadd hX (pc := 107) dX2_readLine_107 ?_
            obtain ⟨I19, e_I19, h⟩ := bnd h
            refine pf3_0 hX (pc := 108) ho1 fl_X2_71 dX2_readLine_108 e_I19 ?_
            obtain rfl := Option.some.inj h
            exact g_return hX (Nat.le_refl _) (Nat.le_refl _) dX2_readLine_111
          · replace h := ifN c16 h
            refine g_lookup hX (pc := 18) (tgt := 92) (off := 74) dX2_readLine_18 (by decide) (by show Op.lookupswitch.offset [(315565, 58), (755397, 50), (8892595, 42), (16322738, 66)] 74 _ = _; rw [lv_osw c4 (show (315565 : Int32).toInt = 315565 by decide), lv_osw c8 (show (755397 : Int32).toInt = 755397 by decide), lv_osw c12 (show (8892595 : Int32).toInt = 8892595 by decide), lv_osw c16 (show (16322738 : Int32).toInt = 16322738 by decide)]; rfl) (by decide) ?_
            refine g_aload_n hX (pc := 92) (i := 0) dX2_readLine_92 rfl 0 rfl ?_
            refine g_iconst hX (pc := 93) (v := 1) dX2_readLine_93 (by decide) ?_
            obtain ⟨r20, e_r20, h⟩ := bnd h
            refine g_callVv hX (pc := 94) (d := d + 5) hr0 [.int 1] (c := 2) (ct_X2_fail (d := d + 5) ho0 e_r20) ho0.1.1 ho0.1.2 (by decide) rfl co_X2_fail ml_X2_64 im_X2_fail sl_X2_fail ini_X2 nm_X2_fail (by decide) ⟨Nat.le_refl _, Nat.le_refl _⟩ (Nat.le_refl _) (Nat.le_of_ble_eq_true rfl) rfl dX2_readLine_94 ?_
            refine g_aload_n hX (pc := 97) (i := 0) dX2_readLine_97 rfl 0 rfl ?_
            obtain ⟨r21, e_r21, h⟩ := bnd h
            refine g_callVv hX (pc := 98) (d := d + 5) hr0 [] (c := 2) (ct_X2_readClose (d := d + 2) ho0 e_r21) ho0.1.1 ho0.1.2 (by decide) rfl co_X2_readClose ml_X2_68 im_X2_readClose sl_X2_readClose ini_X2 nm_X2_readClose (by decide) ⟨Nat.le_refl _, Nat.le_refl _⟩ (Nat.le_refl _) (Nat.le_of_ble_eq_true rfl) rfl dX2_readLine_98 ?_
            refine g_aload_n hX (pc := 101) (i := 1) dX2_readLine_101 rfl 1 rfl ?_
            refine g_dup hX (pc := 102) dX2_readLine_102 rfl ?_
            refine gf3_0 hX (pc := 103) ho1 fl_X2_71 dX2_readLine_103 ?_
            refine g_iconst hX (pc := 106) (v := 1) dX2_readLine_106 (by decide) ?_
            refine g_iadd hX (pc := 107) dX2_readLine_107 ?_
            obtain ⟨I22, e_I22, h⟩ := bnd h
            refine pf3_0 hX (pc := 108) ho1 fl_X2_71 dX2_readLine_108 e_I22 ?_
            obtain rfl := Option.some.inj h
            exact g_return hX (Nat.le_refl _) (Nat.le_refl _) dX2_readLine_111
  replace h := hpj2
  clear hpj2
  refine g_icmp_ne hX (pc := 5) dX2_readLine_5 (tgt := 15) (by decide) (fun c1 => ?_) (fun c1 => ?_)
  · replace h := ifP c1 h
    refine g_aload_n hX (pc := 8) (i := 0) dX2_readLine_8 rfl 0 rfl ?_
    refine gf2_5 hX (pc := 9) ho0 fl_X2_28 dX2_readLine_9 ?_
    refine g_goto hX (pc := 12) (tgt := 16) dX2_readLine_12 (by decide) ?_
    exact Kj2 (I o0 5) (Option.some.inj h)
  · replace h := ifN c1 h
    refine g_iconst hX (pc := 15) (v := 0) dX2_readLine_15 (by decide) ?_
    exact Kj2 0 (Option.some.inj h)
