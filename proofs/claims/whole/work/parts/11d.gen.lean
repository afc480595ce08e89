noncomputable def f_X5_unitAt (o0 : Nat) (x1 : Int32) (x2 : Int32) (x3 : Int32) (x4 : Int32) (J : MJ) (I : MI) : Option (Int32) :=
  if x3 = ((-1)) then
    (rd 2117 (I (o0 + 13)) x2).bind fun v2 =>
    some v2
  else
    (rd 2117 (I (o0 + 13)) x2).bind fun v3 =>
    (f_X5_within x3.toInt64 0 ((v3 - 1).toInt64)).bind fun r4 =>
    if r4 = 0 then
      some ((-2))
    else
      (f_X5_within x4.toInt64 0 1).bind fun r6 =>
      if r6 = 0 then
        some ((-2))
      else
        (if x4 = 0 then
          (rd 2117 (I (o0 + 13)) (x1 + x3)).bind fun v10 =>
          some (v10 / 10)
        else
          (rd 2117 (I (o0 + 13)) (x1 + x3)).bind fun v11 =>
          some (v11 - v11 / 10 * 10)).bind fun (p12 : Int32) =>
        some p12
theorem nm_X5_unitAt : yX5_unitAt.cls ≠ "java/lang/invoke/MethodHandle" ∧ yX5_unitAt.cls ≠ "java/lang/invoke/VarHandle" ∧ (parseMethodDescriptor yX5_unitAt.desc).map (fun d => d.parameters.length) = some 4 := by decide +kernel
set_option maxRecDepth 100000 in
set_option maxHeartbeats 4000000 in
theorem ct_X5_unitAt {E : Ev} {d : Nat} {z : Sh} {J : MJ} {I : MI} {o0 : Nat} {x1 : Int32} {x2 : Int32} {x3 : Int32} {x4 : Int32} {rr : Int32} (ho0 : oX5 z o0) (h : f_X5_unitAt o0 x1 x2 x3 x4 J I = some rr) : Ct E (d + 1) yX5_unitAt cX5_unitAt 5 (some .int) 0 0 [.ref o0, .int x1, .int x2, .int x3, .int x4] z J I (some (.int rr)) z J I := by
  unfold f_X5_unitAt at h
  refine Ct.of (own := RX5) (ls := [(0, .ref o0), (1, .int x1), (2, .int x2), (3, .int x3), (4, .int x4)]) (by decide) rfl (Nat.le_of_ble_eq_true rfl) rfl ?_
  intro X hr0 hnm hX
  refine g_iload_n hX (pc := 0) (i := 3) dX5_unitAt_0 rfl 3 rfl ?_
  refine g_iconst hX (pc := 1) (v := (-1)) dX5_unitAt_1 (by decide) ?_
  refine g_icmp_ne hX (pc := 2) dX5_unitAt_2 (tgt := 12) (by decide) (fun c1 => ?_) (fun c1 => ?_)
  · replace h := ifP c1 h
    refine g_aload_n hX (pc := 5) (i := 0) dX5_unitAt_5 rfl 0 rfl ?_
    refine gf5_27 hX (pc := 6) ho0 fl_X5_48 dX5_unitAt_6 ?_
    refine g_iload_n hX (pc := 9) (i := 2) dX5_unitAt_9 rfl 2 rfl ?_
    obtain ⟨v2, e_v2, h⟩ := bnd h
    refine g_ialoadE hX (pc := 10) (s5_27 ho0).1 (s5_27 ho0).2.1 (s5_27 ho0).2.2.1 e_v2 dX5_unitAt_10 ?_
    obtain rfl := Option.some.inj h
    exact g_ireturn hX (Nat.le_refl _) (Nat.le_refl _) dX5_unitAt_11
  · replace h := ifN c1 h
    refine g_iload_n hX (pc := 12) (i := 3) dX5_unitAt_12 rfl 3 rfl ?_
    refine g_i2l hX (pc := 13) dX5_unitAt_13 ?_
    refine g_lconst hX (pc := 14) (v := 0) dX5_unitAt_14 (by decide) ?_
    refine g_aload_n hX (pc := 15) (i := 0) dX5_unitAt_15 rfl 0 rfl ?_
    refine gf5_27 hX (pc := 16) ho0 fl_X5_48 dX5_unitAt_16 ?_
    refine g_iload_n hX (pc := 19) (i := 2) dX5_unitAt_19 rfl 2 rfl ?_
    obtain ⟨v3, e_v3, h⟩ := bnd h
    refine g_ialoadE hX (pc := 20) (s5_27 ho0).1 (s5_27 ho0).2.1 (s5_27 ho0).2.2.1 e_v3 dX5_unitAt_20 ?_
    refine g_iconst hX (pc := 21) (v := 1) dX5_unitAt_21 (by decide) ?_
    refine g_isub hX (pc := 22) dX5_unitAt_22 ?_
    refine g_i2l hX (pc := 23) dX5_unitAt_23 ?_
    obtain ⟨r4, e_r4, h⟩ := bnd h
    refine g_callSi hX (pc := 24) (d := d + 0) hr0 [.long x3.toInt64, .long 0, .long ((v3 - 1).toInt64)] (ct_X5_within (d := d + 0)  e_r4) co_X5_within ml_X5_123 sta_X5_within ini_X5 nm_X5_within (by decide) ⟨Nat.le_refl _, Nat.le_refl _⟩ (Nat.le_refl _) (Nat.le_of_ble_eq_true rfl) rfl dX5_unitAt_24 ?_
    refine g_if_eq hX (pc := 27) dX5_unitAt_27 (tgt := 41) (by decide) (fun c5 => ?_) (fun c5 => ?_)
    · replace h := ifP c5 h
      refine g_bipush hX (pc := 41) (v := (-2)) dX5_unitAt_41 (by decide) ?_
      obtain rfl := Option.some.inj h
      exact g_ireturn hX (Nat.le_refl _) (Nat.le_refl _) dX5_unitAt_43
    · replace h := ifN c5 h
      refine g_iload hX (pc := 30) dX5_unitAt_30 4 rfl ?_
      refine g_i2l hX (pc := 32) dX5_unitAt_32 ?_
      refine g_lconst hX (pc := 33) (v := 0) dX5_unitAt_33 (by decide) ?_
      refine g_lconst hX (pc := 34) (v := 1) dX5_unitAt_34 (by decide) ?_
      obtain ⟨r6, e_r6, h⟩ := bnd h
      refine g_callSi hX (pc := 35) (d := d + 0) hr0 [.long x4.toInt64, .long 0, .long 1] (ct_X5_within (d := d + 0)  e_r6) co_X5_within ml_X5_123 sta_X5_within ini_X5 nm_X5_within (by decide) ⟨Nat.le_refl _, Nat.le_refl _⟩ (Nat.le_refl _) (Nat.le_of_ble_eq_true rfl) rfl dX5_unitAt_35 ?_
      refine g_if_ne hX (pc := 38) dX5_unitAt_38 (tgt := 44) (by decide) (fun c7 => ?_) (fun c7 => ?_)
      · replace h := ifP c7 h
        refine g_bipush hX (pc := 41) (v := (-2)) dX5_unitAt_41 (by decide) ?_
        obtain rfl := Option.some.inj h
        exact g_ireturn hX (Nat.le_refl _) (Nat.le_refl _) dX5_unitAt_43
      · replace h := ifN c7 h
        refine g_iload hX (pc := 44) dX5_unitAt_44 4 rfl ?_
        obtain ⟨p12, hpj9, h⟩ := bnd h
        have Kj9 : ∀ qj9 : Int32, qj9 = p12 → GW E X (QX E X 0 0 (some (.int rr)) z J I) 5 74 [(0, .ref o0), (1, .int x1), (2, .int x2), (3, .int x3), (4, .int x4)] [.int qj9] z J I 0 0 := by
          intro qj9 hqj9
          subst hqj9
          obtain rfl := Option.some.inj h
          exact g_ireturn hX (Nat.le_refl _) (Nat.le_refl _) dX5_unitAt_74
        replace h := hpj9
        clear hpj9
        refine g_if_ne hX (pc := 46) dX5_unitAt_46 (tgt := 63) (by decide) (fun c8 => ?_) (fun c8 => ?_)
        · replace h := ifP c8 h
          refine g_aload_n hX (pc := 49) (i := 0) dX5_unitAt_49 rfl 0 rfl ?_
          refine gf5_27 hX (pc := 50) ho0 fl_X5_48 dX5_unitAt_50 ?_
          refine g_iload_n hX (pc := 53) (i := 1) dX5_unitAt_53 rfl 1 rfl ?_
          refine g_iload_n hX (pc := 54) (i := 3) dX5_unitAt_54 rfl 3 rfl ?_
          refine g_iadd hX (pc := 55) dX5_unitAt_55 ?_
          obtain ⟨v10, e_v10, h⟩ := bnd h
          refine g_ialoadE hX (pc := 56) (s5_27 ho0).1 (s5_27 ho0).2.1 (s5_27 ho0).2.2.1 e_v10 dX5_unitAt_56 ?_
          refine g_bipush hX (pc := 57) (v := 10) dX5_unitAt_57 (by decide) ?_
          refine g_idiv hX (pc := 59) dX5_unitAt_59 (by decide) ?_
          refine g_goto hX (pc := 60) (tgt := 74) dX5_unitAt_60 (by decide) ?_
          exact Kj9 (v10 / 10) (Option.some.inj h)
        · replace h := ifN c8 h
          refine g_aload_n hX (pc := 63) (i := 0) dX5_unitAt_63 rfl 0 rfl ?_
          refine gf5_27 hX (pc := 64) ho0 fl_X5_48 dX5_unitAt_64 ?_
          refine g_iload_n hX (pc := 67) (i := 1) dX5_unitAt_67 rfl 1 rfl ?_
          refine g_iload_n hX (pc := 68) (i := 3) dX5_unitAt_68 rfl 3 rfl ?_
          refine g_iadd hX (pc := 69) dX5_unitAt_69 ?_
          obtain ⟨v11, e_v11, h⟩ := bnd h
          refine g_ialoadE hX (pc := 70) (s5_27 ho0).1 (s5_27 ho0).2.1 (s5_27 ho0).2.2.1 e_v11 dX5_unitAt_70 ?_
          refine g_bipush hX (pc := 71) (v := 10) dX5_unitAt_71 (by decide) ?_
          refine g_irem hX (pc := 73) dX5_unitAt_73 (by decide) ?_
          exact Kj9 (v11 - v11 / 10 * 10) (Option.some.inj h)
noncomputable def f_X5_belt (o0 : Nat) (x1 : Int32) (x2 : Int32) (J : MJ) (I : MI) : Option (Int32 × MI) :=
  (wf I o0 0 0).bind fun I1 =>
  (f_X5_unitAt o0 371 370 x1 x2 J I1).bind fun r2 =>
  some ((r2, I1))
theorem nm_X5_belt : yX5_belt.cls ≠ "java/lang/invoke/MethodHandle" ∧ yX5_belt.cls ≠ "java/lang/invoke/VarHandle" ∧ (parseMethodDescriptor yX5_belt.desc).map (fun d => d.parameters.length) = some 2 := by decide +kernel
set_option maxRecDepth 100000 in
set_option maxHeartbeats 4000000 in
theorem ct_X5_belt {E : Ev} {d : Nat} {z : Sh} {J : MJ} {I : MI} {o0 : Nat} {x1 : Int32} {x2 : Int32} {rr : Int32} {Iz : MI} (ho0 : oX5 z o0) (h : f_X5_belt o0 x1 x2 J I = some ((rr, Iz))) : Ct E (d + 2) yX5_belt cX5_belt 3 (some .int) 0 0 [.ref o0, .int x1, .int x2] z J I (some (.int rr)) z J Iz := by
  unfold f_X5_belt at h
  refine Ct.of (own := RX5) (ls := [(0, .ref o0), (1, .int x1), (2, .int x2)]) (by decide) rfl (Nat.le_of_ble_eq_true rfl) rfl ?_
  intro X hr0 hnm hX
  refine g_aload_n hX (pc := 0) (i := 0) dX5_belt_0 rfl 0 rfl ?_
  refine g_iconst hX (pc := 1) (v := 0) dX5_belt_1 (by decide) ?_
  obtain ⟨I1, e_I1, h⟩ := bnd h
  refine pf5_0 hX (pc := 2) ho0 fl_X5_86 dX5_belt_2 e_I1 ?_
  refine g_aload_n hX (pc := 5) (i := 0) dX5_belt_5 rfl 0 rfl ?_
  refine g_sipush hX (pc := 6) (v := 371) dX5_belt_6 (by decide) ?_
  refine g_sipush hX (pc := 9) (v := 370) dX5_belt_9 (by decide) ?_
  refine g_iload_n hX (pc := 12) (i := 1) dX5_belt_12 rfl 1 rfl ?_
  refine g_iload_n hX (pc := 13) (i := 2) dX5_belt_13 rfl 2 rfl ?_
  obtain ⟨r2, e_r2, h⟩ := bnd h
  refine g_callVi hX (pc := 14) (d := d + 1) hr0 [.int 371, .int 370, .int x1, .int x2] (c := 5) (ct_X5_unitAt (d := d + 0) ho0 e_r2) ho0.1.1 ho0.1.2 (by decide) rfl co_X5_unitAt ml_X5_320 im_X5_unitAt sl_X5_unitAt ini_X5 nm_X5_unitAt (by decide) ⟨Nat.le_refl _, Nat.le_refl _⟩ (Nat.le_refl _) (Nat.le_of_ble_eq_true rfl) rfl dX5_belt_14 ?_
  replace h := Option.some.inj h
  obtain ⟨rfl, rfl⟩ := Prod.mk.inj h
  exact g_ireturn hX (Nat.le_refl _) (Nat.le_refl _) dX5_belt_17
noncomputable def f_X5_aside (o0 : Nat) (x1 : Int32) (x2 : Int32) (J : MJ) (I : MI) : Option (Int32 × MI) :=
  (wf I o0 0 0).bind fun I1 =>
  (f_X5_unitAt o0 1236 1235 x1 x2 J I1).bind fun r2 =>
  some ((r2, I1))
theorem nm_X5_aside : yX5_aside.cls ≠ "java/lang/invoke/MethodHandle" ∧ yX5_aside.cls ≠ "java/lang/invoke/VarHandle" ∧ (parseMethodDescriptor yX5_aside.desc).map (fun d => d.parameters.length) = some 2 := by decide +kernel
set_option maxRecDepth 100000 in
set_option maxHeartbeats 4000000 in
theorem ct_X5_aside {E : Ev} {d : Nat} {z : Sh} {J : MJ} {I : MI} {o0 : Nat} {x1 : Int32} {x2 : Int32} {rr : Int32} {Iz : MI} (ho0 : oX5 z o0) (h : f_X5_aside o0 x1 x2 J I = some ((rr, Iz))) : Ct E (d + 2) yX5_aside cX5_aside 3 (some .int) 0 0 [.ref o0, .int x1, .int x2] z J I (some (.int rr)) z J Iz := by
  unfold f_X5_aside at h
  refine Ct.of (own := RX5) (ls := [(0, .ref o0), (1, .int x1), (2, .int x2)]) (by decide) rfl (Nat.le_of_ble_eq_true rfl) rfl ?_
  intro X hr0 hnm hX
  refine g_aload_n hX (pc := 0) (i := 0) dX5_aside_0 rfl 0 rfl ?_
  refine g_iconst hX (pc := 1) (v := 0) dX5_aside_1 (by decide) ?_
  obtain ⟨I1, e_I1, h⟩ := bnd h
  refine pf5_0 hX (pc := 2) ho0 fl_X5_86 dX5_aside_2 e_I1 ?_
  refine g_aload_n hX (pc := 5) (i := 0) dX5_aside_5 rfl 0 rfl ?_
  refine g_sipush hX (pc := 6) (v := 1236) dX5_aside_6 (by decide) ?_
  refine g_sipush hX (pc := 9) (v := 1235) dX5_aside_9 (by decide) ?_
  refine g_iload_n hX (pc := 12) (i := 1) dX5_aside_12 rfl 1 rfl ?_
  refine g_iload_n hX (pc := 13) (i := 2) dX5_aside_13 rfl 2 rfl ?_
  obtain ⟨r2, e_r2, h⟩ := bnd h
  refine g_callVi hX (pc := 14) (d := d + 1) hr0 [.int 1236, .int 1235, .int x1, .int x2] (c := 5) (ct_X5_unitAt (d := d + 0) ho0 e_r2) ho0.1.1 ho0.1.2 (by decide) rfl co_X5_unitAt ml_X5_320 im_X5_unitAt sl_X5_unitAt ini_X5 nm_X5_unitAt (by decide) ⟨Nat.le_refl _, Nat.le_refl _⟩ (Nat.le_refl _) (Nat.le_of_ble_eq_true rfl) rfl dX5_aside_14 ?_
  replace h := Option.some.inj h
  obtain ⟨rfl, rfl⟩ := Prod.mk.inj h
  exact g_ireturn hX (Nat.le_refl _) (Nat.le_refl _) dX5_aside_17
noncomputable def f_X5_hole (o0 : Nat) (x1 : Int32) (J : MJ) (I : MI) : Option (Int32 × MI) :=
  (wf I o0 0 0).bind fun I1 =>
  (rd 2 (I1 (o0 + 4)) 0).bind fun v2 =>
  (f_X5_within x1.toInt64 0 ((v2 - 1).toInt64)).bind fun r3 =>
  (if r3 = 0 then
    some ((-2))
  else
    (rd 2117 (I1 (o0 + 13)) (362 + x1)).bind fun v6 =>
    some v6).bind fun (p7 : Int32) =>
  some ((p7, I1))
theorem nm_X5_hole : yX5_hole.cls ≠ "java/lang/invoke/MethodHandle" ∧ yX5_hole.cls ≠ "java/lang/invoke/VarHandle" ∧ (parseMethodDescriptor yX5_hole.desc).map (fun d => d.parameters.length) = some 1 := by decide +kernel
set_option maxRecDepth 100000 in
set_option maxHeartbeats 4000000 in
theorem ct_X5_hole {E : Ev} {d : Nat} {z : Sh} {J : MJ} {I : MI} {o0 : Nat} {x1 : Int32} {rr : Int32} {Iz : MI} (ho0 : oX5 z o0) (h : f_X5_hole o0 x1 J I = some ((rr, Iz))) : Ct E (d + 1) yX5_hole cX5_hole 2 (some .int) 0 0 [.ref o0, .int x1] z J I (some (.int rr)) z J Iz := by
  unfold f_X5_hole at h
  refine Ct.of (own := RX5) (ls := [(0, .ref o0), (1, .int x1)]) (by decide) rfl (Nat.le_of_ble_eq_true rfl) rfl ?_
  intro X hr0 hnm hX
  refine g_aload_n hX (pc := 0) (i := 0) dX5_hole_0 rfl 0 rfl ?_
  refine g_iconst hX (pc := 1) (v := 0) dX5_hole_1 (by decide) ?_
  obtain ⟨I1, e_I1, h⟩ := bnd h
  refine pf5_0 hX (pc := 2) ho0 fl_X5_86 dX5_hole_2 e_I1 ?_
  refine g_iload_n hX (pc := 5) (i := 1) dX5_hole_5 rfl 1 rfl ?_
  refine g_i2l hX (pc := 6) dX5_hole_6 ?_
  refine g_lconst hX (pc := 7) (v := 0) dX5_hole_7 (by decide) ?_
  refine g_aload_n hX (pc := 8) (i := 0) dX5_hole_8 rfl 0 rfl ?_
  refine gf5_15 hX (pc := 9) ho0 fl_X5_20 dX5_hole_9 ?_
  refine g_iconst hX (pc := 12) (v := 0) dX5_hole_12 (by decide) ?_
  obtain ⟨v2, e_v2, h⟩ := bnd h
  refine g_ialoadE hX (pc := 13) (s5_15 ho0).1 (s5_15 ho0).2.1 (s5_15 ho0).2.2.1 e_v2 dX5_hole_13 ?_
  refine g_iconst hX (pc := 14) (v := 1) dX5_hole_14 (by decide) ?_
  refine g_isub hX (pc := 15) dX5_hole_15 ?_
  refine g_i2l hX (pc := 16) dX5_hole_16 ?_
  obtain ⟨r3, e_r3, h⟩ := bnd h
  refine g_callSi hX (pc := 17) (d := d + 0) hr0 [.long x1.toInt64, .long 0, .long ((v2 - 1).toInt64)] (ct_X5_within (d := d + 0)  e_r3) co_X5_within ml_X5_123 sta_X5_within ini_X5 nm_X5_within (by decide) ⟨Nat.le_refl _, Nat.le_refl _⟩ (Nat.le_refl _) (Nat.le_of_ble_eq_true rfl) rfl dX5_hole_17 ?_
  obtain ⟨p7, hpj5, h⟩ := bnd h
  have Kj5 : ∀ qj5 : Int32, qj5 = p7 → GW E X (QX E X 0 0 (some (.int rr)) z J Iz) 2 38 [(0, .ref o0), (1, .int x1)] [.int qj5] z J I1 0 0 := by
    intro qj5 hqj5
    subst hqj5
    replace h := Option.some.inj h
    obtain ⟨rfl, rfl⟩ := Prod.mk.inj h
    exact g_ireturn hX (Nat.le_refl _) (Nat.le_refl _) dX5_hole_38
  replace h := hpj5
  clear hpj5
  refine g_if_eq hX (pc := 20) dX5_hole_20 (tgt := 36) (by decide) (fun c4 => ?_) (fun c4 => ?_)
  · replace h := ifP c4 h
    refine g_bipush hX (pc := 36) (v := (-2)) dX5_hole_36 (by decide) ?_
    exact Kj5 ((-2)) (Option.some.inj h)
  · replace h := ifN c4 h
    refine g_aload_n hX (pc := 23) (i := 0) dX5_hole_23 rfl 0 rfl ?_
    refine gf5_27 hX (pc := 24) ho0 fl_X5_48 dX5_hole_24 ?_
    refine g_sipush hX (pc := 27) (v := 362) dX5_hole_27 (by decide) ?_
    refine g_iload_n hX (pc := 30) (i := 1) dX5_hole_30 rfl 1 rfl ?_
    refine g_iadd hX (pc := 31) dX5_hole_31 ?_
    obtain ⟨v6, e_v6, h⟩ := bnd h
    refine g_ialoadE hX (pc := 32) (s5_27 ho0).1 (s5_27 ho0).2.1 (s5_27 ho0).2.2.1 e_v6 dX5_hole_32 ?_
    refine g_goto hX (pc := 33) (tgt := 38) dX5_hole_33 (by decide) ?_
    exact Kj5 v6 (Option.some.inj h)
noncomputable def f_X5_whole (o0 : Nat) (x1 : Int32) (J : MJ) (I : MI) : Option (Int32 × MI) :=
  (wf I o0 0 0).bind fun I1 =>
  (if x1 = ((-1)) then
    (rd 2117 (I1 (o0 + 13)) 2100).bind fun v4 =>
    some v4
  else
    (rd 2117 (I1 (o0 + 13)) 2100).bind fun v5 =>
    (f_X5_within x1.toInt64 0 ((v5 - 1).toInt64)).bind fun r6 =>
    if r6 = 0 then
      some ((-2))
    else
      (rd 2117 (I1 (o0 + 13)) (2101 + x1)).bind fun v8 =>
      some v8).bind fun (p9 : Int32) =>
  some ((p9, I1))
theorem nm_X5_whole : yX5_whole.cls ≠ "java/lang/invoke/MethodHandle" ∧ yX5_whole.cls ≠ "java/lang/invoke/VarHandle" ∧ (parseMethodDescriptor yX5_whole.desc).map (fun d => d.parameters.length) = some 1 := by decide +kernel
set_option maxRecDepth 100000 in
set_option maxHeartbeats 4000000 in
theorem ct_X5_whole {E : Ev} {d : Nat} {z : Sh} {J : MJ} {I : MI} {o0 : Nat} {x1 : Int32} {rr : Int32} {Iz : MI} (ho0 : oX5 z o0) (h : f_X5_whole o0 x1 J I = some ((rr, Iz))) : Ct E (d + 1) yX5_whole cX5_whole 2 (some .int) 0 0 [.ref o0, .int x1] z J I (some (.int rr)) z J Iz := by
  unfold f_X5_whole at h
  refine Ct.of (own := RX5) (ls := [(0, .ref o0), (1, .int x1)]) (by decide) rfl (Nat.le_of_ble_eq_true rfl) rfl ?_
  intro X hr0 hnm hX
  refine g_aload_n hX (pc := 0) (i := 0) dX5_whole_0 rfl 0 rfl ?_
  refine g_iconst hX (pc := 1) (v := 0) dX5_whole_1 (by decide) ?_
  obtain ⟨I1, e_I1, h⟩ := bnd h
  refine pf5_0 hX (pc := 2) ho0 fl_X5_86 dX5_whole_2 e_I1 ?_
  refine g_iload_n hX (pc := 5) (i := 1) dX5_whole_5 rfl 1 rfl ?_
  refine g_iconst hX (pc := 6) (v := (-1)) dX5_whole_6 (by decide) ?_
  obtain ⟨p9, hpj3, h⟩ := bnd h
  have Kj3 : ∀ qj3 : Int32, qj3 = p9 → GW E X (QX E X 0 0 (some (.int rr)) z J Iz) 2 56 [(0, .ref o0), (1, .int x1)] [.int qj3] z J I1 0 0 := by
    intro qj3 hqj3
    subst hqj3
    replace h := Option.some.inj h
    obtain ⟨rfl, rfl⟩ := Prod.mk.inj h
    exact g_ireturn hX (Nat.le_refl _) (Nat.le_refl _) dX5_whole_56
  replace h := hpj3
  clear hpj3
  refine g_icmp_ne hX (pc := 7) dX5_whole_7 (tgt := 21) (by decide) (fun c2 => ?_) (fun c2 => ?_)
  · replace h := ifP c2 h
    refine g_aload_n hX (pc := 10) (i := 0) dX5_whole_10 rfl 0 rfl ?_
    refine gf5_27 hX (pc := 11) ho0 fl_X5_48 dX5_whole_11 ?_
    refine g_sipush hX (pc := 14) (v := 2100) dX5_whole_14 (by decide) ?_
    obtain ⟨v4, e_v4, h⟩ := bnd h
    refine g_ialoadE hX (pc := 17) (s5_27 ho0).1 (s5_27 ho0).2.1 (s5_27 ho0).2.2.1 e_v4 dX5_whole_17 ?_
    refine g_goto hX (pc := 18) (tgt := 56) dX5_whole_18 (by decide) ?_
    exact Kj3 v4 (Option.some.inj h)
  · replace h := ifN c2 h
    refine g_iload_n hX (pc := 21) (i := 1) dX5_whole_21 rfl 1 rfl ?_
    refine g_i2l hX (pc := 22) dX5_whole_22 ?_
    refine g_lconst hX (pc := 23) (v := 0) dX5_whole_23 (by decide) ?_
    refine g_aload_n hX (pc := 24) (i := 0) dX5_whole_24 rfl 0 rfl ?_
    refine gf5_27 hX (pc := 25) ho0 fl_X5_48 dX5_whole_25 ?_
    refine g_sipush hX (pc := 28) (v := 2100) dX5_whole_28 (by decide) ?_
    obtain ⟨v5, e_v5, h⟩ := bnd h
    refine g_ialoadE hX (pc := 31) (s5_27 ho0).1 (s5_27 ho0).2.1 (s5_27 ho0).2.2.1 e_v5 dX5_whole_31 ?_
    refine g_iconst hX (pc := 32) (v := 1) dX5_whole_32 (by decide) ?_
    refine g_isub hX (pc := 33) dX5_whole_33 ?_
    refine g_i2l hX (pc := 34) dX5_whole_34 ?_
    obtain ⟨r6, e_r6, h⟩ := bnd h
    refine g_callSi hX (pc := 35) (d := d + 0) hr0 [.long x1.toInt64, .long 0, .long ((v5 - 1).toInt64)] (ct_X5_within (d := d + 0)  e_r6) co_X5_within ml_X5_123 sta_X5_within ini_X5 nm_X5_within (by decide) ⟨Nat.le_refl _, Nat.le_refl _⟩ (Nat.le_refl _) (Nat.le_of_ble_eq_true rfl) rfl dX5_whole_35 ?_
    refine g_if_eq hX (pc := 38) dX5_whole_38 (tgt := 54) (by decide) (fun c7 => ?_) (fun c7 => ?_)
    · replace h := ifP c7 h
      refine g_bipush hX (pc := 54) (v := (-2)) dX5_whole_54 (by decide) ?_
      exact Kj3 ((-2)) (Option.some.inj h)
    · replace h := ifN c7 h
      refine g_aload_n hX (pc := 41) (i := 0) dX5_whole_41 rfl 0 rfl ?_
      refine gf5_27 hX (pc := 42) ho0 fl_X5_48 dX5_whole_42 ?_
      refine g_sipush hX (pc := 45) (v := 2101) dX5_whole_45 (by decide) ?_
      refine g_iload_n hX (pc := 48) (i := 1) dX5_whole_48 rfl 1 rfl ?_
      refine g_iadd hX (pc := 49) dX5_whole_49 ?_
      obtain ⟨v8, e_v8, h⟩ := bnd h
      refine g_ialoadE hX (pc := 50) (s5_27 ho0).1 (s5_27 ho0).2.1 (s5_27 ho0).2.2.1 e_v8 dX5_whole_50 ?_
      refine g_goto hX (pc := 51) (tgt := 56) dX5_whole_51 (by decide) ?_
      exact Kj3 v8 (Option.some.inj h)
noncomputable def b_X5_stuck_9 (o0 : Nat) (J : MJ) (I1 : MI) (s : Int32 × Int32) : Option ((Int32 × Int32) ⊕ (Int32 × Int32)) :=
  (rd 2 (I1 (o0 + 3)) 0).bind fun v5 =>
  if s.2 < v5 then
    (rd 2117 (I1 (o0 + 13)) (330 + s.2)).bind fun v7 =>
    (if v7 = 2 then
      (f_X5_sumOf o0 170 s.2 J I1).bind fun r10 =>
      (f_X5_needOf o0 s.2 J I1).bind fun r11 =>
      (f_X5_sumOf o0 10 s.2 J I1).bind fun r12 =>
      if r10 = (r11 - r12) then
        some ((1 : Int32) <<< (s.2 &&& 31))
      else
        some 0
    else
      some 0).bind fun (p14 : Int32) =>
    some (.inl ((s.1 ||| p14, s.2 + 1)))
  else
    some (.inr ((s.1, s.2)))
noncomputable def f_X5_stuck (o0 : Nat) (J : MJ) (I : MI) : Option (Int32 × MI) :=
  (wf I o0 0 0).bind fun I1 =>
  (lp (b_X5_stuck_9 o0 J I1) ((0, 0))).bind fun p15 =>
  some ((p15.1, I1))
theorem nm_X5_stuck : yX5_stuck.cls ≠ "java/lang/invoke/MethodHandle" ∧ yX5_stuck.cls ≠ "java/lang/invoke/VarHandle" ∧ (parseMethodDescriptor yX5_stuck.desc).map (fun d => d.parameters.length) = some 0 := by decide +kernel
set_option maxRecDepth 100000 in
set_option maxHeartbeats 4000000 in
theorem ct_X5_stuck {E : Ev} {d : Nat} {z : Sh} {J : MJ} {I : MI} {o0 : Nat} {rr : Int32} {Iz : MI} (ho0 : oX5 z o0) (h : f_X5_stuck o0 J I = some ((rr, Iz))) : Ct E (d + 1) yX5_stuck cX5_stuck 3 (some .int) 0 0 [.ref o0] z J I (some (.int rr)) z J Iz := by
  unfold f_X5_stuck at h
  refine Ct.of (own := RX5) (ls := [(0, .ref o0)]) (by decide) rfl (Nat.le_of_ble_eq_true rfl) rfl ?_
  intro X hr0 hnm hX
  refine g_aload_n hX (pc := 0) (i := 0) dX5_stuck_0 rfl 0 rfl ?_
  refine g_iconst hX (pc := 1) (v := 0) dX5_stuck_1 (by decide) ?_
  obtain ⟨I1, e_I1, h⟩ := bnd h
  refine pf5_0 hX (pc := 2) ho0 fl_X5_86 dX5_stuck_2 e_I1 ?_
  refine g_iconst hX (pc := 5) (v := 0) dX5_stuck_5 (by decide) ?_
  refine g_istore_n hX (pc := 6) (i := 1) (ls' := [(0, .ref o0), (1, .int 0)]) [1, 0] dX5_stuck_6 rfl (by decide) rfl ?_
  refine g_iconst hX (pc := 7) (v := 0) dX5_stuck_7 (by decide) ?_
  refine g_istore_n hX (pc := 8) (i := 2) (ls' := [(0, .ref o0), (1, .int 0), (2, .int 0)]) [1, 2, 0] dX5_stuck_8 rfl (by decide) rfl ?_
  obtain ⟨p15, hpl4, h⟩ := bnd h
  have Kl4 : ∀ ql4 : Int32 × Int32, ql4 = p15 → GW E X (QX E X 0 0 (some (.int rr)) z J Iz) 3 73 [(0, .ref o0), (1, .int ql4.1), (2, .int ql4.2)] [] z J I1 0 0 := by
    intro ql4 hql4
    subst hql4
    refine g_iload_n hX (pc := 73) (i := 1) dX5_stuck_73 rfl 1 rfl ?_
    replace h := Option.some.inj h
    obtain ⟨rfl, rfl⟩ := Prod.mk.inj h
    exact g_ireturn hX (Nat.le_refl _) (Nat.le_refl _) dX5_stuck_74
  obtain ⟨kl4, hkl4⟩ := lp_ex hpl4
  clear hpl4 h
  have Ll4 : ∀ k : Nat, ∀ (s2 : Int32) (s3 : Int32), lpN k (b_X5_stuck_9 o0 J I1) ((s2, s3)) = some p15 → GW E X (QX E X 0 0 (some (.int rr)) z J Iz) 3 9 [(0, .ref o0), (1, .int s2), (2, .int s3)] [] z J I1 0 0 := by
    intro k
    induction k with
    | zero => intro s2 s3 h; cases h
    | succ k ihl4 =>
      intro s2 s3 h
      obtain ⟨wl4, h, hwl4⟩ := lpN_s h
      unfold b_X5_stuck_9 at h
      try dsimp only at h
      refine g_iload_n hX (pc := 9) (i := 2) dX5_stuck_9 rfl 2 rfl ?_
      refine g_aload_n hX (pc := 10) (i := 0) dX5_stuck_10 rfl 0 rfl ?_
      refine gf5_14 hX (pc := 11) ho0 fl_X5_17 dX5_stuck_11 ?_
      refine g_iconst hX (pc := 14) (v := 0) dX5_stuck_14 (by decide) ?_
      obtain ⟨v5, e_v5, h⟩ := bnd h
      refine g_ialoadE hX (pc := 15) (s5_14 ho0).1 (s5_14 ho0).2.1 (s5_14 ho0).2.2.1 e_v5 dX5_stuck_15 ?_
      refine g_icmp_ge hX (pc := 16) dX5_stuck_16 (tgt := 73) (by decide) (fun c6 => ?_) (fun c6 => ?_)
      · replace h := ifP c6 h
        refine g_iload_n hX (pc := 19) (i := 1) dX5_stuck_19 rfl 1 rfl ?_
        refine g_aload_n hX (pc := 20) (i := 0) dX5_stuck_20 rfl 0 rfl ?_
        refine gf5_27 hX (pc := 21) ho0 fl_X5_48 dX5_stuck_21 ?_
        refine g_sipush hX (pc := 24) (v := 330) dX5_stuck_24 (by decide) ?_
        refine g_iload_n hX (pc := 27) (i := 2) dX5_stuck_27 rfl 2 rfl ?_
        refine g_iadd hX (pc := 28) dX5_stuck_28 ?_
        obtain ⟨v7, e_v7, h⟩ := bnd h
        refine g_ialoadE hX (pc := 29) (s5_27 ho0).1 (s5_27 ho0).2.1 (s5_27 ho0).2.2.1 e_v7 dX5_stuck_29 ?_
        refine g_iconst hX (pc := 30) (v := 2) dX5_stuck_30 (by decide) ?_
        obtain ⟨p14, hpj9, h⟩ := bnd h
        have Kj9 : ∀ qj9 : Int32, qj9 = p14 → GW E X (QX E X 0 0 (some (.int rr)) z J Iz) 3 65 [(0, .ref o0), (1, .int s2), (2, .int s3)] [.int qj9, .int s2] z J I1 0 0 := by
          intro qj9 hqj9
          subst hqj9
          refine g_ior hX (pc := 65) dX5_stuck_65 ?_
          refine g_istore_n hX (pc := 66) (i := 1) (ls' := [(0, .ref o0), (1, .int (s2 ||| qj9)), (2, .int s3)]) [1, 0, 2] dX5_stuck_66 rfl (by decide) rfl ?_
          refine g_iinc hX (pc := 67) (i := 2) (v := s3 + 1) (ls' := [(0, .ref o0), (1, .int (s2 ||| qj9)), (2, .int (s3 + 1))]) 2 [1, 2, 0] dX5_stuck_67 rfl (by rfl) (by decide) rfl ?_
          refine g_goto hX (pc := 70) (tgt := 9) dX5_stuck_70 (by decide) ?_
          obtain rfl := Option.some.inj h
          exact ihl4 (s2 ||| qj9) (s3 + 1) hwl4
        replace h := hpj9
        clear hpj9
        refine g_icmp_ne hX (pc := 31) dX5_stuck_31 (tgt := 64) (by decide) (fun c8 => ?_) (fun c8 => ?_)
        · replace h := ifP c8 h
          refine g_aload_n hX (pc := 34) (i := 0) dX5_stuck_34 rfl 0 rfl ?_
          refine g_sipush hX (pc := 35) (v := 170) dX5_stuck_35 (by decide) ?_
          refine g_iload_n hX (pc := 38) (i := 2) dX5_stuck_38 rfl 2 rfl ?_
          obtain ⟨r10, e_r10, h⟩ := bnd h
          refine g_callVi hX (pc := 39) (d := d + 0) hr0 [.int 170, .int s3] (c := 5) (ct_X5_sumOf (d := d + 0) ho0 e_r10) ho0.1.1 ho0.1.2 (by decide) rfl co_X5_sumOf ml_X5_240 im_X5_sumOf sl_X5_sumOf ini_X5 nm_X5_sumOf (by decide) ⟨Nat.le_refl _, Nat.le_refl _⟩ (Nat.le_refl _) (Nat.le_of_ble_eq_true rfl) rfl dX5_stuck_39 ?_
          refine g_aload_n hX (pc := 42) (i := 0) dX5_stuck_42 rfl 0 rfl ?_
          refine g_iload_n hX (pc := 43) (i := 2) dX5_stuck_43 rfl 2 rfl ?_
          obtain ⟨r11, e_r11, h⟩ := bnd h
          refine g_callVi hX (pc := 44) (d := d + 0) hr0 [.int s3] (c := 5) (ct_X5_needOf (d := d + 0) ho0 e_r11) ho0.1.1 ho0.1.2 (by decide) rfl co_X5_needOf ml_X5_237 im_X5_needOf sl_X5_needOf ini_X5 nm_X5_needOf (by decide) ⟨Nat.le_refl _, Nat.le_refl _⟩ (Nat.le_refl _) (Nat.le_of_ble_eq_true rfl) rfl dX5_stuck_44 ?_
          refine g_aload_n hX (pc := 47) (i := 0) dX5_stuck_47 rfl 0 rfl ?_
          refine g_bipush hX (pc := 48) (v := 10) dX5_stuck_48 (by decide) ?_
          refine g_iload_n hX (pc := 50) (i := 2) dX5_stuck_50 rfl 2 rfl ?_
          obtain ⟨r12, e_r12, h⟩ := bnd h
          refine g_callVi hX (pc := 51) (d := d + 0) hr0 [.int 10, .int s3] (c := 5) (ct_X5_sumOf (d := d + 0) ho0 e_r12) ho0.1.1 ho0.1.2 (by decide) rfl co_X5_sumOf ml_X5_240 im_X5_sumOf sl_X5_sumOf ini_X5 nm_X5_sumOf (by decide) ⟨Nat.le_refl _, Nat.le_refl _⟩ (Nat.le_refl _) (Nat.le_of_ble_eq_true rfl) rfl dX5_stuck_51 ?_
          refine g_isub hX (pc := 54) dX5_stuck_54 ?_
          refine g_icmp_ne hX (pc := 55) dX5_stuck_55 (tgt := 64) (by decide) (fun c13 => ?_) (fun c13 => ?_)
          · replace h := ifP c13 h
            refine g_iconst hX (pc := 58) (v := 1) dX5_stuck_58 (by decide) ?_
            refine g_iload_n hX (pc := 59) (i := 2) dX5_stuck_59 rfl 2 rfl ?_
            refine g_ishl hX (pc := 60) dX5_stuck_60 ?_
            refine g_goto hX (pc := 61) (tgt := 65) dX5_stuck_61 (by decide) ?_
            exact Kj9 ((1 : Int32) <<< (s3 &&& 31)) (Option.some.inj h)
          · replace h := ifN c13 h
            refine g_iconst hX (pc := 64) (v := 0) dX5_stuck_64 (by decide) ?_
            exact Kj9 0 (Option.some.inj h)
        · replace h := ifN c8 h
          refine g_iconst hX (pc := 64) (v := 0) dX5_stuck_64 (by decide) ?_
          exact Kj9 0 (Option.some.inj h)
      · replace h := ifN c6 h
        obtain rfl := Option.some.inj h
        exact Kl4 ((s2, s3)) hwl4
  exact Ll4 kl4 0 0 hkl4
noncomputable def b_X5_needsBy_8 (o0 : Nat) (s : Int32 × MI) : Option ((Int32 × MI) ⊕ (Int32 × MI)) :=
  if s.1 < 16 then
    (wr 16 s.2 (o0 + 20) s.1 0).bind fun I5 =>
    some (.inl ((s.1 + 1, I5)))
  else
    some (.inr ((s.1, s.2)))
noncomputable def b_X5_needsBy_79 (o0 : Nat) (J : MJ) (v14 : Int32) (s21 : Int32) (s : Int32 × Int32 × Int32 × Int32 × MI) : Option ((Int32 × Int32 × Int32 × Int32 × MI) ⊕ (Int32 × Int32 × Int32 × Int32 × MI)) :=
  (rd 320 (s.2.2.2.2 (o0 + 12)) ((10 * s21) + v14)).bind fun v31 =>
  if s.2.2.2.1 < v31 then
    if 0 < s.2.2.1 then
      (f_X5_count1 (s.1 ||| ((1 : Int32) <<< (s21 &&& 31)))).bind fun r34 =>
      (if r34 < s.2.1 then
        some s.2.1
      else
        (f_X5_count1 (s.1 ||| ((1 : Int32) <<< (s21 &&& 31)))).bind fun r37 =>
        some r37).bind fun (p38 : Int32) =>
      (rd 16 (s.2.2.2.2 (o0 + 20)) s21).bind fun v39 =>
      (wr 16 s.2.2.2.2 (o0 + 20) s21 (v39 + 1)).bind fun I40 =>
      (rd 16 (I40 (o0 + 20)) s21).bind fun v41 =>
      (f_X5_needOf o0 s21 J I40).bind fun r42 =>
      (if v41 = r42 then
        (nm ((s.1 ||| ((1 : Int32) <<< (s21 &&& 31))) &&& (((1 : Int32) <<< (s21 &&& 31)) ^^^ ((-1))))).bind fun v45 =>
        some v45
      else
        some (s.1 ||| ((1 : Int32) <<< (s21 &&& 31)))).bind fun (p46 : Int32) =>
      some (.inl ((p46, p38, s.2.2.1 + (-1), s.2.2.2.1 + 1, I40)))
    else
      some (.inr ((s.1, s.2.1, s.2.2.1, s.2.2.2.1, s.2.2.2.2)))
  else
    some (.inr ((s.1, s.2.1, s.2.2.1, s.2.2.2.1, s.2.2.2.2)))
noncomputable def b_X5_needsBy_71 (o0 : Nat) (x1 : Int32) (J : MJ) (v14 : Int32) (s : Int32 × Int32 × Int32 × Int32 × MI) : Option ((Int32 × Int32 × Int32 × Int32 × MI) ⊕ (Int32 × Int32 × Int32 × Int32 × MI)) :=
  if s.2.2.2.1 < 0 then
    some (.inr ((s.1, s.2.1, s.2.2.1, s.2.2.2.1, s.2.2.2.2)))
  else
    (lp (b_X5_needsBy_79 o0 J v14 s.2.2.2.1) ((s.1, s.2.1, s.2.2.1, 0, s.2.2.2.2))).bind fun p47 =>
    (f_X5_earliestBehind o0 x1 s.2.2.2.1 J p47.2.2.2.2).bind fun r48 =>
    some (.inl ((p47.1, p47.2.1, p47.2.2.1, r48, p47.2.2.2.2)))
noncomputable def b_X5_needsBy_32 (o0 : Nat) (x1 : Int32) (o2 : Nat) (n2 : Nat) (J : MJ) (s : Int32 × Int32 × Int32 × MI) : Option ((Int32 × Int32 × Int32 × MI) ⊕ (Int32 × Int32 × Int32 × MI)) :=
  if s.2.2.1 < (s.2.2.2 o0 35) then
    (rd n2 (s.2.2.2 o2) s.2.2.1).bind fun v13 =>
    (rd 10 (s.2.2.2 (o0 + 18)) v13).bind fun v14 =>
    (rd n2 (s.2.2.2 o2) s.2.2.1).bind fun v15 =>
    (rd 10 (s.2.2.2 (o0 + 19)) v15).bind fun v16 =>
    (f_X5_earliestBehind o0 x1 ((-1)) J s.2.2.2).bind fun r17 =>
    (lp (b_X5_needsBy_71 o0 x1 J v14) ((s.1, s.2.1, v16, r17, s.2.2.2))).bind fun p49 =>
    some (.inl ((p49.1, p49.2.1, s.2.2.1 + 1, p49.2.2.2.2)))
  else
    some (.inr ((s.1, s.2.1, s.2.2.1, s.2.2.2)))
noncomputable def f_X5_needsBy (o0 : Nat) (x1 : Int32) (o2 n2 : Nat) (J : MJ) (I : MI) : Option (Int32 × MI) :=
  (lp (b_X5_needsBy_8 o0) ((0, I))).bind fun p6 =>
  (lp (b_X5_needsBy_32 o0 x1 o2 n2 J) ((0, 0, 0, p6.2))).bind fun p50 =>
  some ((p50.2.1, p50.2.2.2))
theorem nm_X5_needsBy : yX5_needsBy.cls ≠ "java/lang/invoke/MethodHandle" ∧ yX5_needsBy.cls ≠ "java/lang/invoke/VarHandle" ∧ (parseMethodDescriptor yX5_needsBy.desc).map (fun d => d.parameters.length) = some 2 := by decide +kernel
set_option maxRecDepth 100000 in
set_option maxHeartbeats 4000000 in
theorem ct_X5_needsBy {E : Ev} {d : Nat} {z : Sh} {J : MJ} {I : MI} {o0 : Nat} {x1 : Int32} {o2 n2 : Nat} {rr : Int32} {Iz : MI} (ho0 : oX5 z o0) (ha2 : o2 ∈ zL z ∧ zK z o2 = 7 ∧ zn z o2 = n2) (h : f_X5_needsBy o0 x1 o2 n2 J I = some ((rr, Iz))) : Ct E (d + 2) yX5_needsBy cX5_needsBy 10 (some .int) 0 0 [.ref o0, .int x1, .ref o2] z J I (some (.int rr)) z J Iz := by
  unfold f_X5_needsBy at h
  refine Ct.of (own := RX5) (ls := [(0, .ref o0), (1, .int x1), (2, .ref o2)]) (by decide) rfl (Nat.le_of_ble_eq_true rfl) rfl ?_
  intro X hr0 hnm hX
  refine g_iconst hX (pc := 0) (v := 0) dX5_needsBy_0 (by decide) ?_
  refine g_istore_n hX (pc := 1) (i := 3) (ls' := [(0, .ref o0), (1, .int x1), (2, .ref o2), (3, .int 0)]) [1, 2, 3, 0] dX5_needsBy_1 rfl (by decide) rfl ?_
  refine g_iconst hX (pc := 2) (v := 0) dX5_needsBy_2 (by decide) ?_
  refine g_istore hX (pc := 3) (ls' := [(0, .ref o0), (1, .int x1), (2, .ref o2), (3, .int 0), (4, .int 0)]) [1, 2, 3, 4, 0] dX5_needsBy_3 (by decide) rfl ?_
  refine g_iconst hX (pc := 5) (v := 0) dX5_needsBy_5 (by decide) ?_
  refine g_istore hX (pc := 6) (ls' := [(0, .ref o0), (1, .int x1), (2, .ref o2), (3, .int 0), (4, .int 0), (5, .int 0)]) [1, 2, 3, 4, 5, 0] dX5_needsBy_6 (by decide) rfl ?_
  obtain ⟨p6, hpl3, h⟩ := bnd h
  have Kl3 : ∀ ql3 : Int32 × MI, ql3 = p6 → GW E X (QX E X 0 0 (some (.int rr)) z J Iz) 10 29 [(0, .ref o0), (1, .int x1), (2, .ref o2), (3, .int 0), (4, .int 0), (5, .int ql3.1)] [] z J ql3.2 0 0 := by
    intro ql3 hql3
    subst hql3
    refine g_iconst hX (pc := 29) (v := 0) dX5_needsBy_29 (by decide) ?_
    refine g_istore hX (pc := 30) (ls' := [(0, .ref o0), (1, .int x1), (2, .ref o2), (3, .int 0), (4, .int 0), (5, .int 0)]) [1, 2, 3, 4, 5, 0] dX5_needsBy_30 (by decide) rfl ?_
    obtain ⟨p50, hpl11, h⟩ := bnd h
    have Kl11 : ∀ ql11 : Int32 × Int32 × Int32 × MI, ql11 = p50 → GW E X (QX E X 0 0 (some (.int rr)) z J Iz) 10 192 [(0, .ref o0), (1, .int x1), (2, .ref o2), (3, .int ql11.1), (4, .int ql11.2.1), (5, .int ql11.2.2.1)] [] z J ql11.2.2.2 0 0 := by
      intro ql11 hql11
      subst hql11
      refine g_iload hX (pc := 192) dX5_needsBy_192 4 rfl ?_
      replace h := Option.some.inj h
      obtain ⟨rfl, rfl⟩ := Prod.mk.inj h
      exact g_ireturn hX (Nat.le_refl _) (Nat.le_refl _) dX5_needsBy_194
    obtain ⟨kl11, hkl11⟩ := lp_ex hpl11
    clear hpl11 h
    have Ll11 : ∀ k : Nat, ∀ (s7 : Int32) (s8 : Int32) (s9 : Int32) (I10 : MI), lpN k (b_X5_needsBy_32 o0 x1 o2 n2 J) ((s7, s8, s9, I10)) = some p50 → GW E X (QX E X 0 0 (some (.int rr)) z J Iz) 10 32 [(0, .ref o0), (1, .int x1), (2, .ref o2), (3, .int s7), (4, .int s8), (5, .int s9)] [] z J I10 0 0 := by
      intro k
      induction k with
      | zero => intro s7 s8 s9 I10 h; cases h
      | succ k ihl11 =>
        intro s7 s8 s9 I10 h
        obtain ⟨wl11, h, hwl11⟩ := lpN_s h
        unfold b_X5_needsBy_32 at h
        try dsimp only at h
        refine g_iload hX (pc := 32) dX5_needsBy_32 5 rfl ?_
        refine g_aload_n hX (pc := 34) (i := 0) dX5_needsBy_34 rfl 0 rfl ?_
        refine gf5_35 hX (pc := 35) ho0 fl_X5_272 dX5_needsBy_35 ?_
        refine g_icmp_ge hX (pc := 38) dX5_needsBy_38 (tgt := 192) (by decide) (fun c12 => ?_) (fun c12 => ?_)
        · replace h := ifP c12 h
          refine g_aload_n hX (pc := 41) (i := 0) dX5_needsBy_41 rfl 0 rfl ?_
          refine gf5_33 hX (pc := 42) ho0 fl_X5_64 dX5_needsBy_42 ?_
          refine g_aload_n hX (pc := 45) (i := 2) dX5_needsBy_45 rfl 2 rfl ?_
          refine g_iload hX (pc := 46) dX5_needsBy_46 5 rfl ?_
          obtain ⟨v13, e_v13, h⟩ := bnd h
          refine g_ialoadE hX (pc := 48) ha2.1 ha2.2.1 ha2.2.2 e_v13 dX5_needsBy_48 ?_
          obtain ⟨v14, e_v14, h⟩ := bnd h
          refine g_ialoadE hX (pc := 49) (s5_33 ho0).1 (s5_33 ho0).2.1 (s5_33 ho0).2.2.1 e_v14 dX5_needsBy_49 ?_
          refine g_istore hX (pc := 50) (ls' := [(0, .ref o0), (1, .int x1), (2, .ref o2), (3, .int s7), (4, .int s8), (5, .int s9), (6, .int v14)]) [1, 2, 3, 4, 5, 6, 0] dX5_needsBy_50 (by decide) rfl ?_
          refine g_aload_n hX (pc := 52) (i := 0) dX5_needsBy_52 rfl 0 rfl ?_
          refine gf5_34 hX (pc := 53) ho0 fl_X5_67 dX5_needsBy_53 ?_
          refine g_aload_n hX (pc := 56) (i := 2) dX5_needsBy_56 rfl 2 rfl ?_
          refine g_iload hX (pc := 57) dX5_needsBy_57 5 rfl ?_
          obtain ⟨v15, e_v15, h⟩ := bnd h
          refine g_ialoadE hX (pc := 59) ha2.1 ha2.2.1 ha2.2.2 e_v15 dX5_needsBy_59 ?_
          obtain ⟨v16, e_v16, h⟩ := bnd h
          refine g_ialoadE hX (pc := 60) (s5_34 ho0).1 (s5_34 ho0).2.1 (s5_34 ho0).2.2.1 e_v16 dX5_needsBy_60 ?_
          refine g_istore hX (pc := 61) (ls' := [(0, .ref o0), (1, .int x1), (2, .ref o2), (3, .int s7), (4, .int s8), (5, .int s9), (6, .int v14), (7, .int v16)]) [1, 2, 3, 4, 5, 6, 7, 0] dX5_needsBy_61 (by decide) rfl ?_
          refine g_aload_n hX (pc := 63) (i := 0) dX5_needsBy_63 rfl 0 rfl ?_
          refine g_iload_n hX (pc := 64) (i := 1) dX5_needsBy_64 rfl 1 rfl ?_
          refine g_iconst hX (pc := 65) (v := (-1)) dX5_needsBy_65 (by decide) ?_
          obtain ⟨r17, e_r17, h⟩ := bnd h
          refine g_callVi hX (pc := 66) (d := d + 1) hr0 [.int x1, .int ((-1))] (c := 5) (ct_X5_earliestBehind (d := d + 0) ho0 e_r17) ho0.1.1 ho0.1.2 (by decide) rfl co_X5_earliestBehind ml_X5_287 im_X5_earliestBehind sl_X5_earliestBehind ini_X5 nm_X5_earliestBehind (by decide) ⟨Nat.le_refl _, Nat.le_refl _⟩ (Nat.le_refl _) (Nat.le_of_ble_eq_true rfl) rfl dX5_needsBy_66 ?_
          refine g_istore hX (pc := 69) (ls' := [(0, .ref o0), (1, .int x1), (2, .ref o2), (3, .int s7), (4, .int s8), (5, .int s9), (6, .int v14), (7, .int v16), (8, .int r17)]) [1, 2, 3, 4, 5, 6, 7, 8, 0] dX5_needsBy_69 (by decide) rfl ?_
          obtain ⟨p49, hpl23, h⟩ := bnd h
          have Kl23 : ∀ ql23 : Int32 × Int32 × Int32 × Int32 × MI, ql23 = p49 → GW E X (QX E X 0 0 (some (.int rr)) z J Iz) 10 186 [(0, .ref o0), (1, .int x1), (2, .ref o2), (3, .int ql23.1), (4, .int ql23.2.1), (5, .int s9), (6, .int v14), (7, .int ql23.2.2.1), (8, .int ql23.2.2.2.1)] [] z J ql23.2.2.2.2 0 0 := by
            intro ql23 hql23
            subst hql23
            refine g_iinc hX (pc := 186) (i := 5) (v := s9 + 1) (ls' := [(0, .ref o0), (1, .int x1), (2, .ref o2), (3, .int ql23.1), (4, .int ql23.2.1), (5, .int (s9 + 1)), (6, .int v14), (7, .int ql23.2.2.1), (8, .int ql23.2.2.2.1)]) 5 [1, 2, 3, 4, 5, 0, 6, 7, 8] dX5_needsBy_186 rfl (by rfl) (by decide) rfl ?_
            refine g_goto hX (pc := 189) (tgt := 32) dX5_needsBy_189 (by decide) ?_
            refine g_sub (ls' := [(0, .ref o0), (1, .int x1), (2, .ref o2), (3, .int ql23.1), (4, .int ql23.2.1), (5, .int (s9 + 1))]) [0, 1, 2, 3, 4, 5] rfl ?_
            obtain rfl := Option.some.inj h
            exact ihl11 ql23.1 ql23.2.1 (s9 + 1) ql23.2.2.2.2 hwl11
          obtain ⟨kl23, hkl23⟩ := lp_ex hpl23
          clear hpl23 h
          have Ll23 : ∀ k : Nat, ∀ (s18 : Int32) (s19 : Int32) (s20 : Int32) (s21 : Int32) (I22 : MI), lpN k (b_X5_needsBy_71 o0 x1 J v14) ((s18, s19, s20, s21, I22)) = some p49 → GW E X (QX E X 0 0 (some (.int rr)) z J Iz) 10 71 [(0, .ref o0), (1, .int x1), (2, .ref o2), (3, .int s18), (4, .int s19), (5, .int s9), (6, .int v14), (7, .int s20), (8, .int s21)] [] z J I22 0 0 := by
            intro k
            induction k with
            | zero => intro s18 s19 s20 s21 I22 h; cases h
            | succ k ihl23 =>
              intro s18 s19 s20 s21 I22 h
              obtain ⟨wl23, h, hwl23⟩ := lpN_s h
              unfold b_X5_needsBy_71 at h
              try dsimp only at h
              refine g_iload hX (pc := 71) dX5_needsBy_71 8 rfl ?_
              refine g_if_lt hX (pc := 73) dX5_needsBy_73 (tgt := 186) (by decide) (fun c24 => ?_) (fun c24 => ?_)
              · replace h := ifP c24 h
                obtain rfl := Option.some.inj h
                exact Kl23 ((s18, s19, s20, s21, I22)) hwl23
              · replace h := ifN c24 h
                refine g_iconst hX (pc := 76) (v := 0) dX5_needsBy_76 (by decide) ?_
                refine g_istore hX (pc := 77) (ls' := [(0, .ref o0), (1, .int x1), (2, .ref o2), (3, .int s18), (4, .int s19), (5, .int s9), (6, .int v14), (7, .int s20), (8, .int s21), (9, .int 0)]) [1, 2, 3, 4, 5, 6, 7, 8, 9, 0] dX5_needsBy_77 (by decide) rfl ?_
                obtain ⟨p47, hpl30, h⟩ := bnd h
                have Kl30 : ∀ ql30 : Int32 × Int32 × Int32 × Int32 × MI, ql30 = p47 → GW E X (QX E X 0 0 (some (.int rr)) z J Iz) 10 174 [(0, .ref o0), (1, .int x1), (2, .ref o2), (3, .int ql30.1), (4, .int ql30.2.1), (5, .int s9), (6, .int v14), (7, .int ql30.2.2.1), (8, .int s21), (9, .int ql30.2.2.2.1)] [] z J ql30.2.2.2.2 0 0 := by
                  intro ql30 hql30
                  subst hql30
                  refine g_aload_n hX (pc := 174) (i := 0) dX5_needsBy_174 rfl 0 rfl ?_
                  refine g_iload_n hX (pc := 175) (i := 1) dX5_needsBy_175 rfl 1 rfl ?_
                  refine g_iload hX (pc := 176) dX5_needsBy_176 8 rfl ?_
                  obtain ⟨r48, e_r48, h⟩ := bnd h
                  refine g_callVi hX (pc := 178) (d := d + 1) hr0 [.int x1, .int s21] (c := 5) (ct_X5_earliestBehind (d := d + 0) ho0 e_r48) ho0.1.1 ho0.1.2 (by decide) rfl co_X5_earliestBehind ml_X5_287 im_X5_earliestBehind sl_X5_earliestBehind ini_X5 nm_X5_earliestBehind (by decide) ⟨Nat.le_refl _, Nat.le_refl _⟩ (Nat.le_refl _) (Nat.le_of_ble_eq_true rfl) rfl dX5_needsBy_178 ?_
                  refine g_istore hX (pc := 181) (ls' := [(0, .ref o0), (1, .int x1), (2, .ref o2), (3, .int ql30.1), (4, .int ql30.2.1), (5, .int s9), (6, .int v14), (7, .int ql30.2.2.1), (8, .int r48), (9, .int ql30.2.2.2.1)]) [1, 2, 3, 4, 5, 6, 7, 8, 0, 9] dX5_needsBy_181 (by decide) rfl ?_
                  refine g_goto hX (pc := 183) (tgt := 71) dX5_needsBy_183 (by decide) ?_
                  refine g_sub (ls' := [(0, .ref o0), (1, .int x1), (2, .ref o2), (3, .int ql30.1), (4, .int ql30.2.1), (5, .int s9), (6, .int v14), (7, .int ql30.2.2.1), (8, .int r48)]) [0, 1, 2, 3, 4, 5, 6, 7, 8] rfl ?_
                  obtain rfl := Option.some.inj h
                  exact ihl23 ql30.1 ql30.2.1 ql30.2.2.1 r48 ql30.2.2.2.2 hwl23
                obtain ⟨kl30, hkl30⟩ := lp_ex hpl30
                clear hpl30 h
                have Ll30 : ∀ k : Nat, ∀ (s25 : Int32) (s26 : Int32) (s27 : Int32) (s28 : Int32) (I29 : MI), lpN k (b_X5_needsBy_79 o0 J v14 s21) ((s25, s26, s27, s28, I29)) = some p47 → GW E X (QX E X 0 0 (some (.int rr)) z J Iz) 10 79 [(0, .ref o0), (1, .int x1), (2, .ref o2), (3, .int s25), (4, .int s26), (5, .int s9), (6, .int v14), (7, .int s27), (8, .int s21), (9, .int s28)] [] z J I29 0 0 := by
                  intro k
                  induction k with
                  | zero => intro s25 s26 s27 s28 I29 h; cases h
                  | succ k ihl30 =>
                    intro s25 s26 s27 s28 I29 h
                    obtain ⟨wl30, h, hwl30⟩ := lpN_s h
                    unfold b_X5_needsBy_79 at h
                    try dsimp only at h
                    refine g_iload hX (pc := 79) dX5_needsBy_79 9 rfl ?_
                    refine g_aload_n hX (pc := 81) (i := 0) dX5_needsBy_81 rfl 0 rfl ?_
                    refine gf5_23 hX (pc := 82) ho0 fl_X5_45 dX5_needsBy_82 ?_
                    refine g_bipush hX (pc := 85) (v := 10) dX5_needsBy_85 (by decide) ?_
                    refine g_iload hX (pc := 87) dX5_needsBy_87 8 rfl ?_
                    refine g_imul hX (pc := 89) dX5_needsBy_89 ?_
                    refine g_iload hX (pc := 90) dX5_needsBy_90 6 rfl ?_
                    refine g_iadd hX (pc := 92) dX5_needsBy_92 ?_
                    obtain ⟨v31, e_v31, h⟩ := bnd h
                    refine g_ialoadE hX (pc := 93) (s5_23 ho0).1 (s5_23 ho0).2.1 (s5_23 ho0).2.2.1 e_v31 dX5_needsBy_93 ?_
                    refine g_icmp_ge hX (pc := 94) dX5_needsBy_94 (tgt := 174) (by decide) (fun c32 => ?_) (fun c32 => ?_)
                    · replace h := ifP c32 h
                      refine g_iload hX (pc := 97) dX5_needsBy_97 7 rfl ?_
                      refine g_if_le hX (pc := 99) dX5_needsBy_99 (tgt := 174) (by decide) (fun c33 => ?_) (fun c33 => ?_)
                      · replace h := ifP c33 h
                        refine g_iinc hX (pc := 102) (i := 7) (v := s27 + (-1)) (ls' := [(0, .ref o0), (1, .int x1), (2, .ref o2), (3, .int s25), (4, .int s26), (5, .int s9), (6, .int v14), (7, .int (s27 + (-1))), (8, .int s21), (9, .int s28)]) 7 [1, 2, 3, 4, 5, 6, 7, 0, 8, 9] dX5_needsBy_102 rfl (by rfl) (by decide) rfl ?_
                        refine g_iload_n hX (pc := 105) (i := 3) dX5_needsBy_105 rfl 3 rfl ?_
                        refine g_iconst hX (pc := 106) (v := 1) dX5_needsBy_106 (by decide) ?_
                        refine g_iload hX (pc := 107) dX5_needsBy_107 8 rfl ?_
                        refine g_ishl hX (pc := 109) dX5_needsBy_109 ?_
                        refine g_ior hX (pc := 110) dX5_needsBy_110 ?_
                        refine g_istore_n hX (pc := 111) (i := 3) (ls' := [(0, .ref o0), (1, .int x1), (2, .ref o2), (3, .int (s25 ||| ((1 : Int32) <<< (s21 &&& 31)))), (4, .int s26), (5, .int s9), (6, .int v14), (7, .int (s27 + (-1))), (8, .int s21), (9, .int s28)]) [1, 2, 3, 0, 4, 5, 6, 7, 8, 9] dX5_needsBy_111 rfl (by decide) rfl ?_
                        refine g_iload hX (pc := 112) dX5_needsBy_112 4 rfl ?_
                        refine g_iload_n hX (pc := 114) (i := 3) dX5_needsBy_114 rfl 3 rfl ?_
                        obtain ⟨r34, e_r34, h⟩ := bnd h
                        refine g_callSi hX (pc := 115) (d := d + 1) hr0 [.int (s25 ||| ((1 : Int32) <<< (s21 &&& 31)))] (ct_X5_count1 (d := d + 1)  e_r34) co_X5_count1 ml_X5_253 sta_X5_count1 ini_X5 nm_X5_count1 (by decide) ⟨Nat.le_refl _, Nat.le_refl _⟩ (Nat.le_refl _) (Nat.le_of_ble_eq_true rfl) rfl dX5_needsBy_115 ?_
                        obtain ⟨p38, hpj36, h⟩ := bnd h
                        have Kj36 : ∀ qj36 : Int32, qj36 = p38 → GW E X (QX E X 0 0 (some (.int rr)) z J Iz) 10 130 [(0, .ref o0), (1, .int x1), (2, .ref o2), (3, .int (s25 ||| ((1 : Int32) <<< (s21 &&& 31)))), (4, .int s26), (5, .int s9), (6, .int v14), (7, .int (s27 + (-1))), (8, .int s21), (9, .int s28)] [.int qj36] z J I29 0 0 := by
                          intro qj36 hqj36
                          subst hqj36
                          refine g_istore hX (pc := 130) (ls' := [(0, .ref o0), (1, .int x1), (2, .ref o2), (3, .int (s25 ||| ((1 : Int32) <<< (s21 &&& 31)))), (4, .int qj36), (5, .int s9), (6, .int v14), (7, .int (s27 + (-1))), (8, .int s21), (9, .int s28)]) [1, 2, 3, 4, 0, 5, 6, 7, 8, 9] dX5_needsBy_130 (by decide) rfl ?_
                          refine g_aload_n hX (pc := 132) (i := 0) dX5_needsBy_132 rfl 0 rfl ?_
                          refine gf5_36 hX (pc := 133) ho0 fl_X5_70 dX5_needsBy_133 ?_
                          refine g_iload hX (pc := 136) dX5_needsBy_136 8 rfl ?_
                          refine g_dup2 hX (pc := 138) dX5_needsBy_138 rfl rfl ?_
                          obtain ⟨v39, e_v39, h⟩ := bnd h
                          refine g_ialoadE hX (pc := 139) (s5_36 ho0).1 (s5_36 ho0).2.1 (s5_36 ho0).2.2.1 e_v39 dX5_needsBy_139 ?_
                          refine g_iconst hX (pc := 140) (v := 1) dX5_needsBy_140 (by decide) ?_
                          refine g_iadd hX (pc := 141) dX5_needsBy_141 ?_
                          obtain ⟨I40, e_I40, h⟩ := bnd h
                          refine g_iastoreE hX (pc := 142) (s5_36 ho0).1 (s5_36 ho0).2.1 (s5_36 ho0).2.2.1 e_I40 dX5_needsBy_142 ?_
                          refine g_aload_n hX (pc := 143) (i := 0) dX5_needsBy_143 rfl 0 rfl ?_
                          refine gf5_36 hX (pc := 144) ho0 fl_X5_70 dX5_needsBy_144 ?_
                          refine g_iload hX (pc := 147) dX5_needsBy_147 8 rfl ?_
                          obtain ⟨v41, e_v41, h⟩ := bnd h
                          refine g_ialoadE hX (pc := 149) (s5_36 ho0).1 (s5_36 ho0).2.1 (s5_36 ho0).2.2.1 e_v41 dX5_needsBy_149 ?_
                          refine g_aload_n hX (pc := 150) (i := 0) dX5_needsBy_150 rfl 0 rfl ?_
                          refine g_iload hX (pc := 151) dX5_needsBy_151 8 rfl ?_
                          obtain ⟨r42, e_r42, h⟩ := bnd h
                          refine g_callVi hX (pc := 153) (d := d + 1) hr0 [.int s21] (c := 5) (ct_X5_needOf (d := d + 1) ho0 e_r42) ho0.1.1 ho0.1.2 (by decide) rfl co_X5_needOf ml_X5_237 im_X5_needOf sl_X5_needOf ini_X5 nm_X5_needOf (by decide) ⟨Nat.le_refl _, Nat.le_refl _⟩ (Nat.le_refl _) (Nat.le_of_ble_eq_true rfl) rfl dX5_needsBy_153 ?_
                          obtain ⟨p46, hpj44, h⟩ := bnd h
                          have Kj44 : ∀ qj44 : Int32, qj44 = p46 → GW E X (QX E X 0 0 (some (.int rr)) z J Iz) 10 168 [(0, .ref o0), (1, .int x1), (2, .ref o2), (3, .int qj44), (4, .int qj36), (5, .int s9), (6, .int v14), (7, .int (s27 + (-1))), (8, .int s21), (9, .int s28)] [] z J I40 0 0 := by
                            intro qj44 hqj44
                            subst hqj44
                            refine g_iinc hX (pc := 168) (i := 9) (v := s28 + 1) (ls' := [(0, .ref o0), (1, .int x1), (2, .ref o2), (3, .int qj44), (4, .int qj36), (5, .int s9), (6, .int v14), (7, .int (s27 + (-1))), (8, .int s21), (9, .int (s28 + 1))]) 9 [1, 2, 3, 4, 5, 6, 7, 8, 9, 0] dX5_needsBy_168 rfl (by rfl) (by decide) rfl ?_
                            refine g_goto hX (pc := 171) (tgt := 79) dX5_needsBy_171 (by decide) ?_
                            obtain rfl := Option.some.inj h
                            exact ihl30 qj44 qj36 (s27 + (-1)) (s28 + 1) I40 hwl30
                          replace h := hpj44
                          clear hpj44
                          refine g_icmp_ne hX (pc := 156) dX5_needsBy_156 (tgt := 168) (by decide) (fun c43 => ?_) (fun c43 => ?_)
                          · replace h := ifP c43 h
                            refine g_iload_n hX (pc := 159) (i := 3) dX5_needsBy_159 rfl 3 rfl ?_
                            refine g_iconst hX (pc := 160) (v := 1) dX5_needsBy_160 (by decide) ?_
                            refine g_iload hX (pc := 161) dX5_needsBy_161 8 rfl ?_
                            refine g_ishl hX (pc := 163) dX5_needsBy_163 ?_
                            refine g_iconst hX (pc := 164) (v := (-1)) dX5_needsBy_164 (by decide) ?_
                            refine g_ixor hX (pc := 165) dX5_needsBy_165 ?_
                            refine g_iand hX (pc := 166) dX5_needsBy_166 ?_
                            obtain ⟨v45, e_v45, h⟩ := bnd h
                            refine g_nmi e_v45 ?_
                            refine g_istore_n hX (pc := 167) (i := 3) (ls' := [(0, .ref o0), (1, .int x1), (2, .ref o2), (3, .int v45), (4, .int qj36), (5, .int s9), (6, .int v14), (7, .int (s27 + (-1))), (8, .int s21), (9, .int s28)]) [1, 2, 3, 0, 4, 5, 6, 7, 8, 9] dX5_needsBy_167 rfl (by decide) rfl ?_
                            exact Kj44 v45 (Option.some.inj h)
                          · replace h := ifN c43 h
                            exact Kj44 (s25 ||| ((1 : Int32) <<< (s21 &&& 31))) (Option.some.inj h)
                        replace h := hpj36
                        clear hpj36
                        refine g_icmp_le hX (pc := 118) dX5_needsBy_118 (tgt := 126) (by decide) (fun c35 => ?_) (fun c35 => ?_)
                        · replace h := ifP c35 h
                          refine g_iload hX (pc := 121) dX5_needsBy_121 4 rfl ?_
                          refine g_goto hX (pc := 123) (tgt := 130) dX5_needsBy_123 (by decide) ?_
                          exact Kj36 s26 (Option.some.inj h)
                        · replace h := ifN c35 h
                          refine g_iload_n hX (pc := 126) (i := 3) dX5_needsBy_126 rfl 3 rfl ?_
                          obtain ⟨r37, e_r37, h⟩ := bnd h
                          refine g_callSi hX (pc := 127) (d := d + 1) hr0 [.int (s25 ||| ((1 : Int32) <<< (s21 &&& 31)))] (ct_X5_count1 (d := d + 1)  e_r37) co_X5_count1 ml_X5_253 sta_X5_count1 ini_X5 nm_X5_count1 (by decide) ⟨Nat.le_refl _, Nat.le_refl _⟩ (Nat.le_refl _) (Nat.le_of_ble_eq_true rfl) rfl dX5_needsBy_127 ?_
                          exact Kj36 r37 (Option.some.inj h)
                      · replace h := ifN c33 h
                        obtain rfl := Option.some.inj h
                        exact Kl30 ((s25, s26, s27, s28, I29)) hwl30
                    · replace h := ifN c32 h
                      obtain rfl := Option.some.inj h
                      exact Kl30 ((s25, s26, s27, s28, I29)) hwl30
                exact Ll30 kl30 s18 s19 s20 0 I22 hkl30
          exact Ll23 kl23 s7 s8 v16 r17 I10 hkl23
        · replace h := ifN c12 h
          obtain rfl := Option.some.inj h
          exact Kl11 ((s7, s8, s9, I10)) hwl11
    exact Ll11 kl11 0 0 0 ql3.2 hkl11
  obtain ⟨kl3, hkl3⟩ := lp_ex hpl3
  clear hpl3 h
  have Ll3 : ∀ k : Nat, ∀ (s1 : Int32) (I2 : MI), lpN k (b_X5_needsBy_8 o0) ((s1, I2)) = some p6 → GW E X (QX E X 0 0 (some (.int rr)) z J Iz) 10 8 [(0, .ref o0), (1, .int x1), (2, .ref o2), (3, .int 0), (4, .int 0), (5, .int s1)] [] z J I2 0 0 := by
    intro k
    induction k with
    | zero => intro s1 I2 h; cases h
    | succ k ihl3 =>
      intro s1 I2 h
      obtain ⟨wl3, h, hwl3⟩ := lpN_s h
      unfold b_X5_needsBy_8 at h
      try dsimp only at h
      refine g_iload hX (pc := 8) dX5_needsBy_8 5 rfl ?_
      refine g_bipush hX (pc := 10) (v := 16) dX5_needsBy_10 (by decide) ?_
      refine g_icmp_ge hX (pc := 12) dX5_needsBy_12 (tgt := 29) (by decide) (fun c4 => ?_) (fun c4 => ?_)
      · replace h := ifP c4 h
        refine g_aload_n hX (pc := 15) (i := 0) dX5_needsBy_15 rfl 0 rfl ?_
        refine gf5_36 hX (pc := 16) ho0 fl_X5_70 dX5_needsBy_16 ?_
        refine g_iload hX (pc := 19) dX5_needsBy_19 5 rfl ?_
        refine g_iconst hX (pc := 21) (v := 0) dX5_needsBy_21 (by decide) ?_
        obtain ⟨I5, e_I5, h⟩ := bnd h
        refine g_iastoreE hX (pc := 22) (s5_36 ho0).1 (s5_36 ho0).2.1 (s5_36 ho0).2.2.1 e_I5 dX5_needsBy_22 ?_
        refine g_iinc hX (pc := 23) (i := 5) (v := s1 + 1) (ls' := [(0, .ref o0), (1, .int x1), (2, .ref o2), (3, .int 0), (4, .int 0), (5, .int (s1 + 1))]) 5 [1, 2, 3, 4, 5, 0] dX5_needsBy_23 rfl (by rfl) (by decide) rfl ?_
        refine g_goto hX (pc := 26) (tgt := 8) dX5_needsBy_26 (by decide) ?_
        obtain rfl := Option.some.inj h
        exact ihl3 (s1 + 1) I5 hwl3
      · replace h := ifN c4 h
        obtain rfl := Option.some.inj h
        exact Kl3 ((s1, I2)) hwl3
  exact Ll3 kl3 0 I hkl3
noncomputable def b_X5_needs_17 (o0 : Nat) (s : Int32 × MI) : Option ((Int32 × MI) ⊕ (Int32 × MI)) :=
  if s.1 < (s.2 o0 35) then
    (wr 10 s.2 (o0 + 21) s.1 s.1).bind fun I8 =>
    some (.inl ((s.1 + 1, I8)))
  else
    some (.inr ((s.1, s.2)))
noncomputable def f_X5_needs (o0 : Nat) (J : MJ) (I : MI) : Option (Int32 × MI) :=
  (wf I o0 0 0).bind fun I1 =>
  (f_X5_nextWave o0 J I1).bind fun r2 =>
  (f_X5_laysPicks o0 r2 J I1).bind fun r3 =>
  (lp (b_X5_needs_17 o0) ((0, r3))).bind fun p9 =>
  (f_X5_needsBy o0 r2 (o0 + 21) 10 J p9.2).bind fun r10 =>
  some ((r10.1, r10.2))
theorem nm_X5_needs : yX5_needs.cls ≠ "java/lang/invoke/MethodHandle" ∧ yX5_needs.cls ≠ "java/lang/invoke/VarHandle" ∧ (parseMethodDescriptor yX5_needs.desc).map (fun d => d.parameters.length) = some 0 := by decide +kernel
set_option maxRecDepth 100000 in
set_option maxHeartbeats 4000000 in
theorem ct_X5_needs {E : Ev} {d : Nat} {z : Sh} {J : MJ} {I : MI} {o0 : Nat} {rr : Int32} {Iz : MI} (ho0 : oX5 z o0) (h : f_X5_needs o0 J I = some ((rr, Iz))) : Ct E (d + 4) yX5_needs cX5_needs 3 (some .int) 0 0 [.ref o0] z J I (some (.int rr)) z J Iz := by
  unfold f_X5_needs at h
  refine Ct.of (own := RX5) (ls := [(0, .ref o0)]) (by decide) rfl (Nat.le_of_ble_eq_true rfl) rfl ?_
  intro X hr0 hnm hX
  refine g_aload_n hX (pc := 0) (i := 0) dX5_needs_0 rfl 0 rfl ?_
  refine g_iconst hX (pc := 1) (v := 0) dX5_needs_1 (by decide) ?_
  obtain ⟨I1, e_I1, h⟩ := bnd h
  refine pf5_0 hX (pc := 2) ho0 fl_X5_86 dX5_needs_2 e_I1 ?_
  refine g_aload_n hX (pc := 5) (i := 0) dX5_needs_5 rfl 0 rfl ?_
  obtain ⟨r2, e_r2, h⟩ := bnd h
  refine g_callVi hX (pc := 6) (d := d + 3) hr0 [] (c := 5) (ct_X5_nextWave (d := d + 0) ho0 e_r2) ho0.1.1 ho0.1.2 (by decide) rfl co_X5_nextWave ml_X5_269 im_X5_nextWave sl_X5_nextWave ini_X5 nm_X5_nextWave (by decide) ⟨Nat.le_refl _, Nat.le_refl _⟩ (Nat.le_refl _) (Nat.le_of_ble_eq_true rfl) rfl dX5_needs_6 ?_
  refine g_istore_n hX (pc := 9) (i := 1) (ls' := [(0, .ref o0), (1, .int r2)]) [1, 0] dX5_needs_9 rfl (by decide) rfl ?_
  refine g_aload_n hX (pc := 10) (i := 0) dX5_needs_10 rfl 0 rfl ?_
  refine g_iload_n hX (pc := 11) (i := 1) dX5_needs_11 rfl 1 rfl ?_
  obtain ⟨r3, e_r3, h⟩ := bnd h
  refine g_callVv hX (pc := 12) (d := d + 3) hr0 [.int r2] (c := 5) (ct_X5_laysPicks (d := d + 3) ho0 e_r3) ho0.1.1 ho0.1.2 (by decide) rfl co_X5_laysPicks ml_X5_275 im_X5_laysPicks sl_X5_laysPicks ini_X5 nm_X5_laysPicks (by decide) ⟨Nat.le_refl _, Nat.le_refl _⟩ (Nat.le_refl _) (Nat.le_of_ble_eq_true rfl) rfl dX5_needs_12 ?_
  refine g_iconst hX (pc := 15) (v := 0) dX5_needs_15 (by decide) ?_
  refine g_istore_n hX (pc := 16) (i := 2) (ls' := [(0, .ref o0), (1, .int r2), (2, .int 0)]) [1, 2, 0] dX5_needs_16 rfl (by decide) rfl ?_
  obtain ⟨p9, hpl6, h⟩ := bnd h
  have Kl6 : ∀ ql6 : Int32 × MI, ql6 = p9 → GW E X (QX E X 0 0 (some (.int rr)) z J Iz) 3 38 [(0, .ref o0), (1, .int r2), (2, .int ql6.1)] [] z J ql6.2 0 0 := by
    intro ql6 hql6
    subst hql6
    refine g_aload_n hX (pc := 38) (i := 0) dX5_needs_38 rfl 0 rfl ?_
    refine g_iload_n hX (pc := 39) (i := 1) dX5_needs_39 rfl 1 rfl ?_
    refine g_aload_n hX (pc := 40) (i := 0) dX5_needs_40 rfl 0 rfl ?_
    refine gf5_37 hX (pc := 41) ho0 fl_X5_73 dX5_needs_41 ?_
    obtain ⟨r10, e_r10, h⟩ := bnd h
    refine g_callVi hX (pc := 44) (d := d + 3) hr0 [.int r2, .ref (o0 + 21)] (c := 5) (ct_X5_needsBy (d := d + 1) ho0 ⟨(s5_37 ho0).1, (s5_37 ho0).2.1, (s5_37 ho0).2.2.1⟩ e_r10) ho0.1.1 ho0.1.2 (by decide) rfl co_X5_needsBy ml_X5_324 im_X5_needsBy sl_X5_needsBy ini_X5 nm_X5_needsBy (by decide) ⟨Nat.le_refl _, Nat.le_refl _⟩ (Nat.le_refl _) (Nat.le_of_ble_eq_true rfl) rfl dX5_needs_44 ?_
    replace h := Option.some.inj h
    obtain ⟨rfl, rfl⟩ := Prod.mk.inj h
    exact g_ireturn hX (Nat.le_refl _) (Nat.le_refl _) dX5_needs_47
  obtain ⟨kl6, hkl6⟩ := lp_ex hpl6
  clear hpl6 h
  have Ll6 : ∀ k : Nat, ∀ (s4 : Int32) (I5 : MI), lpN k (b_X5_needs_17 o0) ((s4, I5)) = some p9 → GW E X (QX E X 0 0 (some (.int rr)) z J Iz) 3 17 [(0, .ref o0), (1, .int r2), (2, .int s4)] [] z J I5 0 0 := by
    intro k
    induction k with
    | zero => intro s4 I5 h; cases h
    | succ k ihl6 =>
      intro s4 I5 h
      obtain ⟨wl6, h, hwl6⟩ := lpN_s h
      unfold b_X5_needs_17 at h
      try dsimp only at h
      refine g_iload_n hX (pc := 17) (i := 2) dX5_needs_17 rfl 2 rfl ?_
      refine g_aload_n hX (pc := 18) (i := 0) dX5_needs_18 rfl 0 rfl ?_
      refine gf5_35 hX (pc := 19) ho0 fl_X5_272 dX5_needs_19 ?_
      refine g_icmp_ge hX (pc := 22) dX5_needs_22 (tgt := 38) (by decide) (fun c7 => ?_) (fun c7 => ?_)
      · replace h := ifP c7 h
        refine g_aload_n hX (pc := 25) (i := 0) dX5_needs_25 rfl 0 rfl ?_
        refine gf5_37 hX (pc := 26) ho0 fl_X5_73 dX5_needs_26 ?_
        refine g_iload_n hX (pc := 29) (i := 2) dX5_needs_29 rfl 2 rfl ?_
        refine g_iload_n hX (pc := 30) (i := 2) dX5_needs_30 rfl 2 rfl ?_
        obtain ⟨I8, e_I8, h⟩ := bnd h
        refine g_iastoreE hX (pc := 31) (s5_37 ho0).1 (s5_37 ho0).2.1 (s5_37 ho0).2.2.1 e_I8 dX5_needs_31 ?_
        refine g_iinc hX (pc := 32) (i := 2) (v := s4 + 1) (ls' := [(0, .ref o0), (1, .int r2), (2, .int (s4 + 1))]) 2 [1, 2, 0] dX5_needs_32 rfl (by rfl) (by decide) rfl ?_
        refine g_goto hX (pc := 35) (tgt := 17) dX5_needs_35 (by decide) ?_
        obtain rfl := Option.some.inj h
        exact ihl6 (s4 + 1) I8 hwl6
      · replace h := ifN c7 h
        obtain rfl := Option.some.inj h
        exact Kl6 ((s4, I5)) hwl6
  exact Ll6 kl6 0 r3 hkl6
noncomputable def b_X5_pickAbove_4 (o0 : Nat) (x1 : Int32) (I : MI) (s : Int32 × Int32) : Option ((Int32 × Int32) ⊕ (Int32 × Int32)) :=
  if s.2 < (I o0 35) then
    (rd 10 (I (o0 + 18)) s.2).bind fun v5 =>
    (if x1 < v5 then
      if s.1 < 0 then
        some s.2
      else
        (rd 10 (I (o0 + 18)) s.2).bind fun v9 =>
        (rd 10 (I (o0 + 18)) s.1).bind fun v10 =>
        if v9 < v10 then
          some s.2
        else
          some s.1
    else
      some s.1).bind fun (p12 : Int32) =>
    some (.inl ((p12, s.2 + 1)))
  else
    some (.inr ((s.1, s.2)))
noncomputable def f_X5_pickAbove (o0 : Nat) (x1 : Int32) (J : MJ) (I : MI) : Option (Int32) :=
  (lp (b_X5_pickAbove_4 o0 x1 I) (((-1), 0))).bind fun p13 =>
  some p13.1
theorem nm_X5_pickAbove : yX5_pickAbove.cls ≠ "java/lang/invoke/MethodHandle" ∧ yX5_pickAbove.cls ≠ "java/lang/invoke/VarHandle" ∧ (parseMethodDescriptor yX5_pickAbove.desc).map (fun d => d.parameters.length) = some 1 := by decide +kernel
set_option maxRecDepth 100000 in
set_option maxHeartbeats 4000000 in
theorem ct_X5_pickAbove {E : Ev} {d : Nat} {z : Sh} {J : MJ} {I : MI} {o0 : Nat} {x1 : Int32} {rr : Int32} (ho0 : oX5 z o0) (h : f_X5_pickAbove o0 x1 J I = some rr) : Ct E (d + 0) yX5_pickAbove cX5_pickAbove 4 (some .int) 0 0 [.ref o0, .int x1] z J I (some (.int rr)) z J I := by
  unfold f_X5_pickAbove at h
  refine Ct.of (own := RX5) (ls := [(0, .ref o0), (1, .int x1)]) (by decide) rfl (Nat.le_of_ble_eq_true rfl) rfl ?_
  intro X hr0 hnm hX
  refine g_iconst hX (pc := 0) (v := (-1)) dX5_pickAbove_0 (by decide) ?_
  refine g_istore_n hX (pc := 1) (i := 2) (ls' := [(0, .ref o0), (1, .int x1), (2, .int ((-1)))]) [1, 2, 0] dX5_pickAbove_1 rfl (by decide) rfl ?_
  refine g_iconst hX (pc := 2) (v := 0) dX5_pickAbove_2 (by decide) ?_
  refine g_istore_n hX (pc := 3) (i := 3) (ls' := [(0, .ref o0), (1, .int x1), (2, .int ((-1))), (3, .int 0)]) [1, 2, 3, 0] dX5_pickAbove_3 rfl (by decide) rfl ?_
  obtain ⟨p13, hpl3, h⟩ := bnd h
  have Kl3 : ∀ ql3 : Int32 × Int32, ql3 = p13 → GW E X (QX E X 0 0 (some (.int rr)) z J I) 4 49 [(0, .ref o0), (1, .int x1), (2, .int ql3.1), (3, .int ql3.2)] [] z J I 0 0 := by
    intro ql3 hql3
    subst hql3
    refine g_iload_n hX (pc := 49) (i := 2) dX5_pickAbove_49 rfl 2 rfl ?_
    obtain rfl := Option.some.inj h
    exact g_ireturn hX (Nat.le_refl _) (Nat.le_refl _) dX5_pickAbove_50
  obtain ⟨kl3, hkl3⟩ := lp_ex hpl3
  clear hpl3 h
  have Ll3 : ∀ k : Nat, ∀ (s1 : Int32) (s2 : Int32), lpN k (b_X5_pickAbove_4 o0 x1 I) ((s1, s2)) = some p13 → GW E X (QX E X 0 0 (some (.int rr)) z J I) 4 4 [(0, .ref o0), (1, .int x1), (2, .int s1), (3, .int s2)] [] z J I 0 0 := by
    intro k
    induction k with
    | zero => intro s1 s2 h; cases h
    | succ k ihl3 =>
      intro s1 s2 h
      obtain ⟨wl3, h, hwl3⟩ := lpN_s h
      unfold b_X5_pickAbove_4 at h
      try dsimp only at h
      refine g_iload_n hX (pc := 4) (i := 3) dX5_pickAbove_4 rfl 3 rfl ?_
      refine g_aload_n hX (pc := 5) (i := 0) dX5_pickAbove_5 rfl 0 rfl ?_
      refine gf5_35 hX (pc := 6) ho0 fl_X5_272 dX5_pickAbove_6 ?_
      refine g_icmp_ge hX (pc := 9) dX5_pickAbove_9 (tgt := 49) (by decide) (fun c4 => ?_) (fun c4 => ?_)
      · replace h := ifP c4 h
        refine g_aload_n hX (pc := 12) (i := 0) dX5_pickAbove_12 rfl 0 rfl ?_
        refine gf5_33 hX (pc := 13) ho0 fl_X5_64 dX5_pickAbove_13 ?_
        refine g_iload_n hX (pc := 16) (i := 3) dX5_pickAbove_16 rfl 3 rfl ?_
        obtain ⟨v5, e_v5, h⟩ := bnd h
        refine g_ialoadE hX (pc := 17) (s5_33 ho0).1 (s5_33 ho0).2.1 (s5_33 ho0).2.2.1 e_v5 dX5_pickAbove_17 ?_
        refine g_iload_n hX (pc := 18) (i := 1) dX5_pickAbove_18 rfl 1 rfl ?_
        obtain ⟨p12, hpj7, h⟩ := bnd h
        have Kj7 : ∀ qj7 : Int32, qj7 = p12 → GW E X (QX E X 0 0 (some (.int rr)) z J I) 4 43 [(0, .ref o0), (1, .int x1), (2, .int qj7), (3, .int s2)] [] z J I 0 0 := by
          intro qj7 hqj7
          subst hqj7
          refine g_iinc hX (pc := 43) (i := 3) (v := s2 + 1) (ls' := [(0, .ref o0), (1, .int x1), (2, .int qj7), (3, .int (s2 + 1))]) 3 [1, 2, 3, 0] dX5_pickAbove_43 rfl (by rfl) (by decide) rfl ?_
          refine g_goto hX (pc := 46) (tgt := 4) dX5_pickAbove_46 (by decide) ?_
          obtain rfl := Option.some.inj h
          exact ihl3 qj7 (s2 + 1) hwl3
        replace h := hpj7
        clear hpj7
        refine g_icmp_le hX (pc := 19) dX5_pickAbove_19 (tgt := 43) (by decide) (fun c6 => ?_) (fun c6 => ?_)
        · replace h := ifP c6 h
          refine g_iload_n hX (pc := 22) (i := 2) dX5_pickAbove_22 rfl 2 rfl ?_
          refine g_if_lt hX (pc := 23) dX5_pickAbove_23 (tgt := 41) (by decide) (fun c8 => ?_) (fun c8 => ?_)
          · replace h := ifP c8 h
            refine g_iload_n hX (pc := 41) (i := 3) dX5_pickAbove_41 rfl 3 rfl ?_
            refine g_istore_n hX (pc := 42) (i := 2) (ls' := [(0, .ref o0), (1, .int x1), (2, .int s2), (3, .int s2)]) [1, 2, 0, 3] dX5_pickAbove_42 rfl (by decide) rfl ?_
            exact Kj7 s2 (Option.some.inj h)
          · replace h := ifN c8 h
            refine g_aload_n hX (pc := 26) (i := 0) dX5_pickAbove_26 rfl 0 rfl ?_
            refine gf5_33 hX (pc := 27) ho0 fl_X5_64 dX5_pickAbove_27 ?_
            refine g_iload_n hX (pc := 30) (i := 3) dX5_pickAbove_30 rfl 3 rfl ?_
            obtain ⟨v9, e_v9, h⟩ := bnd h
            refine g_ialoadE hX (pc := 31) (s5_33 ho0).1 (s5_33 ho0).2.1 (s5_33 ho0).2.2.1 e_v9 dX5_pickAbove_31 ?_
            refine g_aload_n hX (pc := 32) (i := 0) dX5_pickAbove_32 rfl 0 rfl ?_
            refine gf5_33 hX (pc := 33) ho0 fl_X5_64 dX5_pickAbove_33 ?_
            refine g_iload_n hX (pc := 36) (i := 2) dX5_pickAbove_36 rfl 2 rfl ?_
            obtain ⟨v10, e_v10, h⟩ := bnd h
            refine g_ialoadE hX (pc := 37) (s5_33 ho0).1 (s5_33 ho0).2.1 (s5_33 ho0).2.2.1 e_v10 dX5_pickAbove_37 ?_
            refine g_icmp_ge hX (pc := 38) dX5_pickAbove_38 (tgt := 43) (by decide) (fun c11 => ?_) (fun c11 => ?_)
            · replace h := ifP c11 h
              refine g_iload_n hX (pc := 41) (i := 3) dX5_pickAbove_41 rfl 3 rfl ?_
              refine g_istore_n hX (pc := 42) (i := 2) (ls' := [(0, .ref o0), (1, .int x1), (2, .int s2), (3, .int s2)]) [1, 2, 0, 3] dX5_pickAbove_42 rfl (by decide) rfl ?_
              exact Kj7 s2 (Option.some.inj h)
            · replace h := ifN c11 h
              exact Kj7 s1 (Option.some.inj h)
        · replace h := ifN c6 h
          exact Kj7 s1 (Option.some.inj h)
      · replace h := ifN c4 h
        obtain rfl := Option.some.inj h
        exact Kl3 ((s1, s2)) hwl3
  exact Ll3 kl3 ((-1)) 0 hkl3
noncomputable def b_X5_laysSizes_15 (o0 : Nat) (x1 : Int32) (J : MJ) (s : Int32 × MI) : Option ((Int32 × MI) ⊕ (Int32 × MI)) :=
  if s.1 = 0 then
    some (.inr ((s.1, s.2)))
  else
    (f_X5_waveOf o0 s.1 x1 J s.2).bind fun r8 =>
    (wf s.2 o0 40 ((s.2 o0 40) + 1)).bind fun I9 =>
    (f_X5_itemsOf o0 r8 J I9).bind fun r10 =>
    (f_X5_count1 r10).bind fun r11 =>
    (wf I9 o0 41 ((I9 o0 41) + r11)).bind fun I12 =>
    some (.inl ((s.1 &&& (r8 ^^^ ((-1))), I12)))
noncomputable def f_X5_laysSizes (o0 : Nat) (x1 : Int32) (J : MJ) (I : MI) : Option (MI) :=
  (wf I o0 40 0).bind fun I1 =>
  (wf I1 o0 41 0).bind fun I2 =>
  (f_X5_waiting o0 J I2).bind fun r3 =>
  (lp (b_X5_laysSizes_15 o0 x1 J) ((r3, I2))).bind fun p13 =>
  some p13.2
theorem nm_X5_laysSizes : yX5_laysSizes.cls ≠ "java/lang/invoke/MethodHandle" ∧ yX5_laysSizes.cls ≠ "java/lang/invoke/VarHandle" ∧ (parseMethodDescriptor yX5_laysSizes.desc).map (fun d => d.parameters.length) = some 1 := by decide +kernel
set_option maxRecDepth 100000 in
set_option maxHeartbeats 4000000 in
theorem ct_X5_laysSizes {E : Ev} {d : Nat} {z : Sh} {J : MJ} {I : MI} {o0 : Nat} {x1 : Int32} {Iz : MI} (ho0 : oX5 z o0) (h : f_X5_laysSizes o0 x1 J I = some Iz) : Ct E (d + 3) yX5_laysSizes cX5_laysSizes 4 none 0 0 [.ref o0, .int x1] z J I none z J Iz := by
  unfold f_X5_laysSizes at h
  refine Ct.of (own := RX5) (ls := [(0, .ref o0), (1, .int x1)]) (by decide) rfl (Nat.le_of_ble_eq_true rfl) rfl ?_
  intro X hr0 hnm hX
  refine g_aload_n hX (pc := 0) (i := 0) dX5_laysSizes_0 rfl 0 rfl ?_
  refine g_iconst hX (pc := 1) (v := 0) dX5_laysSizes_1 (by decide) ?_
  obtain ⟨I1, e_I1, h⟩ := bnd h
  refine pf5_40 hX (pc := 2) ho0 fl_X5_337 dX5_laysSizes_2 e_I1 ?_
  refine g_aload_n hX (pc := 5) (i := 0) dX5_laysSizes_5 rfl 0 rfl ?_
  refine g_iconst hX (pc := 6) (v := 0) dX5_laysSizes_6 (by decide) ?_
  obtain ⟨I2, e_I2, h⟩ := bnd h
  refine pf5_41 hX (pc := 7) ho0 fl_X5_340 dX5_laysSizes_7 e_I2 ?_
  refine g_aload_n hX (pc := 10) (i := 0) dX5_laysSizes_10 rfl 0 rfl ?_
  obtain ⟨r3, e_r3, h⟩ := bnd h
  refine g_callVi hX (pc := 11) (d := d + 2) hr0 [] (c := 5) (ct_X5_waiting (d := d + 2) ho0 e_r3) ho0.1.1 ho0.1.2 (by decide) rfl co_X5_waiting ml_X5_263 im_X5_waiting sl_X5_waiting ini_X5 nm_X5_waiting (by decide) ⟨Nat.le_refl _, Nat.le_refl _⟩ (Nat.le_refl _) (Nat.le_of_ble_eq_true rfl) rfl dX5_laysSizes_11 ?_
  refine g_istore_n hX (pc := 14) (i := 2) (ls' := [(0, .ref o0), (1, .int x1), (2, .int r3)]) [1, 2, 0] dX5_laysSizes_14 rfl (by decide) rfl ?_
  obtain ⟨p13, hpl6, h⟩ := bnd h
  have Kl6 : ∀ ql6 : Int32 × MI, ql6 = p13 → GW E X (QX E X 0 0 none z J Iz) 4 62 [(0, .ref o0), (1, .int x1), (2, .int ql6.1)] [] z J ql6.2 0 0 := by
    intro ql6 hql6
    subst hql6
    obtain rfl := Option.some.inj h
    exact g_return hX (Nat.le_refl _) (Nat.le_refl _) dX5_laysSizes_62
  obtain ⟨kl6, hkl6⟩ := lp_ex hpl6
  clear hpl6 h
  have Ll6 : ∀ k : Nat, ∀ (s4 : Int32) (I5 : MI), lpN k (b_X5_laysSizes_15 o0 x1 J) ((s4, I5)) = some p13 → GW E X (QX E X 0 0 none z J Iz) 4 15 [(0, .ref o0), (1, .int x1), (2, .int s4)] [] z J I5 0 0 := by
    intro k
    induction k with
    | zero => intro s4 I5 h; cases h
    | succ k ihl6 =>
      intro s4 I5 h
      obtain ⟨wl6, h, hwl6⟩ := lpN_s h
      unfold b_X5_laysSizes_15 at h
      try dsimp only at h
      refine g_iload_n hX (pc := 15) (i := 2) dX5_laysSizes_15 rfl 2 rfl ?_
      refine g_if_eq hX (pc := 16) dX5_laysSizes_16 (tgt := 62) (by decide) (fun c7 => ?_) (fun c7 => ?_)
      · replace h := ifP c7 h
        obtain rfl := Option.some.inj h
        exact Kl6 ((s4, I5)) hwl6
      · replace h := ifN c7 h
        refine g_aload_n hX (pc := 19) (i := 0) dX5_laysSizes_19 rfl 0 rfl ?_
        refine g_iload_n hX (pc := 20) (i := 2) dX5_laysSizes_20 rfl 2 rfl ?_
        refine g_iload_n hX (pc := 21) (i := 1) dX5_laysSizes_21 rfl 1 rfl ?_
        obtain ⟨r8, e_r8, h⟩ := bnd h
        refine g_callVi hX (pc := 22) (d := d + 2) hr0 [.int s4, .int x1] (c := 5) (ct_X5_waveOf (d := d + 0) ho0 e_r8) ho0.1.1 ho0.1.2 (by decide) rfl co_X5_waveOf ml_X5_266 im_X5_waveOf sl_X5_waveOf ini_X5 nm_X5_waveOf (by decide) ⟨Nat.le_refl _, Nat.le_refl _⟩ (Nat.le_refl _) (Nat.le_of_ble_eq_true rfl) rfl dX5_laysSizes_22 ?_
        refine g_istore_n hX (pc := 25) (i := 3) (ls' := [(0, .ref o0), (1, .int x1), (2, .int s4), (3, .int r8)]) [1, 2, 3, 0] dX5_laysSizes_25 rfl (by decide) rfl ?_
        refine g_iload_n hX (pc := 26) (i := 2) dX5_laysSizes_26 rfl 2 rfl ?_
        refine g_iload_n hX (pc := 27) (i := 3) dX5_laysSizes_27 rfl 3 rfl ?_
        refine g_iconst hX (pc := 28) (v := (-1)) dX5_laysSizes_28 (by decide) ?_
        refine g_ixor hX (pc := 29) dX5_laysSizes_29 ?_
        refine g_iand hX (pc := 30) dX5_laysSizes_30 ?_
        refine g_istore_n hX (pc := 31) (i := 2) (ls' := [(0, .ref o0), (1, .int x1), (2, .int (s4 &&& (r8 ^^^ ((-1))))), (3, .int r8)]) [1, 2, 0, 3] dX5_laysSizes_31 rfl (by decide) rfl ?_
        refine g_aload_n hX (pc := 32) (i := 0) dX5_laysSizes_32 rfl 0 rfl ?_
        refine g_dup hX (pc := 33) dX5_laysSizes_33 rfl ?_
        refine gf5_40 hX (pc := 34) ho0 fl_X5_337 dX5_laysSizes_34 ?_
        refine g_iconst hX (pc := 37) (v := 1) dX5_laysSizes_37 (by decide) ?_
        refine g_iadd hX (pc := 38) dX5_laysSizes_38 ?_
        obtain ⟨I9, e_I9, h⟩ := bnd h
        refine pf5_40 hX (pc := 39) ho0 fl_X5_337 dX5_laysSizes_39 e_I9 ?_
        refine g_aload_n hX (pc := 42) (i := 0) dX5_laysSizes_42 rfl 0 rfl ?_
        refine g_dup hX (pc := 43) dX5_laysSizes_43 rfl ?_
        refine gf5_41 hX (pc := 44) ho0 fl_X5_340 dX5_laysSizes_44 ?_
        refine g_aload_n hX (pc := 47) (i := 0) dX5_laysSizes_47 rfl 0 rfl ?_
        refine g_iload_n hX (pc := 48) (i := 3) dX5_laysSizes_48 rfl 3 rfl ?_
        obtain ⟨r10, e_r10, h⟩ := bnd h
        refine g_callVi hX (pc := 49) (d := d + 2) hr0 [.int r8] (c := 5) (ct_X5_itemsOf (d := d + 2) ho0 e_r10) ho0.1.1 ho0.1.2 (by decide) rfl co_X5_itemsOf ml_X5_250 im_X5_itemsOf sl_X5_itemsOf ini_X5 nm_X5_itemsOf (by decide) ⟨Nat.le_refl _, Nat.le_refl _⟩ (Nat.le_refl _) (Nat.le_of_ble_eq_true rfl) rfl dX5_laysSizes_49 ?_
        obtain ⟨r11, e_r11, h⟩ := bnd h
        refine g_callSi hX (pc := 52) (d := d + 2) hr0 [.int r10] (ct_X5_count1 (d := d + 2)  e_r11) co_X5_count1 ml_X5_253 sta_X5_count1 ini_X5 nm_X5_count1 (by decide) ⟨Nat.le_refl _, Nat.le_refl _⟩ (Nat.le_refl _) (Nat.le_of_ble_eq_true rfl) rfl dX5_laysSizes_52 ?_
        refine g_iadd hX (pc := 55) dX5_laysSizes_55 ?_
        obtain ⟨I12, e_I12, h⟩ := bnd h
        refine pf5_41 hX (pc := 56) ho0 fl_X5_340 dX5_laysSizes_56 e_I12 ?_
        refine g_goto hX (pc := 59) (tgt := 15) dX5_laysSizes_59 (by decide) ?_
        refine g_sub (ls' := [(0, .ref o0), (1, .int x1), (2, .int (s4 &&& (r8 ^^^ ((-1)))))]) [0, 1, 2] rfl ?_
        obtain rfl := Option.some.inj h
        exact ihl6 (s4 &&& (r8 ^^^ ((-1)))) I12 hwl6
  exact Ll6 kl6 r3 I2 hkl6
noncomputable def f_X5_sizes (o0 : Nat) (x1 : Int32) (x2 : Int32) (J : MJ) (I : MI) : Option (Int32 × MI) :=
  (wf I o0 0 0).bind fun I1 =>
  (f_X5_within x1.toInt64 1 8).bind fun r2 =>
  if r2 = 0 then
    some (((-1), I1))
  else
    (f_X5_within x2.toInt64 0 1).bind fun r4 =>
    if r4 = 0 then
      some (((-1), I1))
    else
      (f_X5_laysSizes o0 x1 J I1).bind fun r6 =>
      (if x2 = 0 then
        some (r6 o0 40)
      else
        some (r6 o0 41)).bind fun (p9 : Int32) =>
      some ((p9, r6))
theorem nm_X5_sizes : yX5_sizes.cls ≠ "java/lang/invoke/MethodHandle" ∧ yX5_sizes.cls ≠ "java/lang/invoke/VarHandle" ∧ (parseMethodDescriptor yX5_sizes.desc).map (fun d => d.parameters.length) = some 2 := by decide +kernel
set_option maxRecDepth 100000 in
set_option maxHeartbeats 4000000 in
theorem ct_X5_sizes {E : Ev} {d : Nat} {z : Sh} {J : MJ} {I : MI} {o0 : Nat} {x1 : Int32} {x2 : Int32} {rr : Int32} {Iz : MI} (ho0 : oX5 z o0) (h : f_X5_sizes o0 x1 x2 J I = some ((rr, Iz))) : Ct E (d + 4) yX5_sizes cX5_sizes 3 (some .int) 0 0 [.ref o0, .int x1, .int x2] z J I (some (.int rr)) z J Iz := by
  unfold f_X5_sizes at h
  refine Ct.of (own := RX5) (ls := [(0, .ref o0), (1, .int x1), (2, .int x2)]) (by decide) rfl (Nat.le_of_ble_eq_true rfl) rfl ?_
  intro X hr0 hnm hX
  refine g_aload_n hX (pc := 0) (i := 0) dX5_sizes_0 rfl 0 rfl ?_
  refine g_iconst hX (pc := 1) (v := 0) dX5_sizes_1 (by decide) ?_
  obtain ⟨I1, e_I1, h⟩ := bnd h
  refine pf5_0 hX (pc := 2) ho0 fl_X5_86 dX5_sizes_2 e_I1 ?_
  refine g_iload_n hX (pc := 5) (i := 1) dX5_sizes_5 rfl 1 rfl ?_
  refine g_i2l hX (pc := 6) dX5_sizes_6 ?_
  refine g_lconst hX (pc := 7) (v := 1) dX5_sizes_7 (by decide) ?_
  refine g_ldc2 hX (pc := 8) cst_X5_343 dX5_sizes_8 ?_
  obtain ⟨r2, e_r2, h⟩ := bnd h
  refine g_callSi hX (pc := 11) (d := d + 3) hr0 [.long x1.toInt64, .long 1, .long 8] (ct_X5_within (d := d + 3)  e_r2) co_X5_within ml_X5_123 sta_X5_within ini_X5 nm_X5_within (by decide) ⟨Nat.le_refl _, Nat.le_refl _⟩ (Nat.le_refl _) (Nat.le_of_ble_eq_true rfl) rfl dX5_sizes_11 ?_
  refine g_if_eq hX (pc := 14) dX5_sizes_14 (tgt := 27) (by decide) (fun c3 => ?_) (fun c3 => ?_)
  · replace h := ifP c3 h
    refine g_iconst hX (pc := 27) (v := (-1)) dX5_sizes_27 (by decide) ?_
    replace h := Option.some.inj h
    obtain ⟨rfl, rfl⟩ := Prod.mk.inj h
    exact g_ireturn hX (Nat.le_refl _) (Nat.le_refl _) dX5_sizes_28
  · replace h := ifN c3 h
    refine g_iload_n hX (pc := 17) (i := 2) dX5_sizes_17 rfl 2 rfl ?_
    refine g_i2l hX (pc := 18) dX5_sizes_18 ?_
    refine g_lconst hX (pc := 19) (v := 0) dX5_sizes_19 (by decide) ?_
    refine g_lconst hX (pc := 20) (v := 1) dX5_sizes_20 (by decide) ?_
    obtain ⟨r4, e_r4, h⟩ := bnd h
    refine g_callSi hX (pc := 21) (d := d + 3) hr0 [.long x2.toInt64, .long 0, .long 1] (ct_X5_within (d := d + 3)  e_r4) co_X5_within ml_X5_123 sta_X5_within ini_X5 nm_X5_within (by decide) ⟨Nat.le_refl _, Nat.le_refl _⟩ (Nat.le_refl _) (Nat.le_of_ble_eq_true rfl) rfl dX5_sizes_21 ?_
    refine g_if_ne hX (pc := 24) dX5_sizes_24 (tgt := 29) (by decide) (fun c5 => ?_) (fun c5 => ?_)
    · replace h := ifP c5 h
      refine g_iconst hX (pc := 27) (v := (-1)) dX5_sizes_27 (by decide) ?_
      replace h := Option.some.inj h
      obtain ⟨rfl, rfl⟩ := Prod.mk.inj h
      exact g_ireturn hX (Nat.le_refl _) (Nat.le_refl _) dX5_sizes_28
    · replace h := ifN c5 h
      refine g_aload_n hX (pc := 29) (i := 0) dX5_sizes_29 rfl 0 rfl ?_
      refine g_iload_n hX (pc := 30) (i := 1) dX5_sizes_30 rfl 1 rfl ?_
      obtain ⟨r6, e_r6, h⟩ := bnd h
      refine g_callVv hX (pc := 31) (d := d + 3) hr0 [.int x1] (c := 5) (ct_X5_laysSizes (d := d + 0) ho0 e_r6) ho0.1.1 ho0.1.2 (by decide) rfl co_X5_laysSizes ml_X5_345 im_X5_laysSizes sl_X5_laysSizes ini_X5 nm_X5_laysSizes (by decide) ⟨Nat.le_refl _, Nat.le_refl _⟩ (Nat.le_refl _) (Nat.le_of_ble_eq_true rfl) rfl dX5_sizes_31 ?_
      refine g_iload_n hX (pc := 34) (i := 2) dX5_sizes_34 rfl 2 rfl ?_
      obtain ⟨p9, hpj8, h⟩ := bnd h
      have Kj8 : ∀ qj8 : Int32, qj8 = p9 → GW E X (QX E X 0 0 (some (.int rr)) z J Iz) 3 49 [(0, .ref o0), (1, .int x1), (2, .int x2)] [.int qj8] z J r6 0 0 := by
        intro qj8 hqj8
        subst hqj8
        replace h := Option.some.inj h
        obtain ⟨rfl, rfl⟩ := Prod.mk.inj h
        exact g_ireturn hX (Nat.le_refl _) (Nat.le_refl _) dX5_sizes_49
      replace h := hpj8
      clear hpj8
      refine g_if_ne hX (pc := 35) dX5_sizes_35 (tgt := 45) (by decide) (fun c7 => ?_) (fun c7 => ?_)
      · replace h := ifP c7 h
        refine g_aload_n hX (pc := 38) (i := 0) dX5_sizes_38 rfl 0 rfl ?_
        refine gf5_40 hX (pc := 39) ho0 fl_X5_337 dX5_sizes_39 ?_
        refine g_goto hX (pc := 42) (tgt := 49) dX5_sizes_42 (by decide) ?_
        exact Kj8 (r6 o0 40) (Option.some.inj h)
      · replace h := ifN c7 h
        refine g_aload_n hX (pc := 45) (i := 0) dX5_sizes_45 rfl 0 rfl ?_
        refine gf5_41 hX (pc := 46) ho0 fl_X5_340 dX5_sizes_46 ?_
        exact Kj8 (r6 o0 41) (Option.some.inj h)
noncomputable def b_X5_bestSize_11 (o0 : Nat) (J : MJ) (s : Int32 × Int32 × Int32 × MI) : Option ((Int32 × Int32 × Int32 × MI) ⊕ (Int32 × Int32 × Int32 × MI)) :=
  if 8 < s.2.2.1 then
    some (.inr ((s.1, s.2.1, s.2.2.1, s.2.2.2)))
  else
    (f_X5_laysSizes o0 s.2.2.1 J s.2.2.2).bind fun r8 =>
    (if 0 < s.1 then
      if (r8 o0 41) < s.2.1 then
        some ((s.2.2.1, r8 o0 41))
      else
        some ((s.1, s.2.1))
    else
      some ((s.2.2.1, r8 o0 41))).bind fun (p12 : Int32 × Int32) =>
    some (.inl ((p12.1, p12.2, s.2.2.1 + 1, r8)))
noncomputable def f_X5_bestSize (o0 : Nat) (J : MJ) (I : MI) : Option (Int32 × MI) :=
  (wf I o0 0 0).bind fun I1 =>
  (lp (b_X5_bestSize_11 o0 J) ((0, 0, 1, I1))).bind fun p13 =>
  some ((p13.1, p13.2.2.2))
theorem nm_X5_bestSize : yX5_bestSize.cls ≠ "java/lang/invoke/MethodHandle" ∧ yX5_bestSize.cls ≠ "java/lang/invoke/VarHandle" ∧ (parseMethodDescriptor yX5_bestSize.desc).map (fun d => d.parameters.length) = some 0 := by decide +kernel
set_option maxRecDepth 100000 in
set_option maxHeartbeats 4000000 in
theorem ct_X5_bestSize {E : Ev} {d : Nat} {z : Sh} {J : MJ} {I : MI} {o0 : Nat} {rr : Int32} {Iz : MI} (ho0 : oX5 z o0) (h : f_X5_bestSize o0 J I = some ((rr, Iz))) : Ct E (d + 4) yX5_bestSize cX5_bestSize 4 (some .int) 0 0 [.ref o0] z J I (some (.int rr)) z J Iz := by
  unfold f_X5_bestSize at h
  refine Ct.of (own := RX5) (ls := [(0, .ref o0)]) (by decide) rfl (Nat.le_of_ble_eq_true rfl) rfl ?_
  intro X hr0 hnm hX
  refine g_aload_n hX (pc := 0) (i := 0) dX5_bestSize_0 rfl 0 rfl ?_
  refine g_iconst hX (pc := 1) (v := 0) dX5_bestSize_1 (by decide) ?_
  obtain ⟨I1, e_I1, h⟩ := bnd h
  refine pf5_0 hX (pc := 2) ho0 fl_X5_86 dX5_bestSize_2 e_I1 ?_
  refine g_iconst hX (pc := 5) (v := 0) dX5_bestSize_5 (by decide) ?_
  refine g_istore_n hX (pc := 6) (i := 1) (ls' := [(0, .ref o0), (1, .int 0)]) [1, 0] dX5_bestSize_6 rfl (by decide) rfl ?_
  refine g_iconst hX (pc := 7) (v := 0) dX5_bestSize_7 (by decide) ?_
  refine g_istore_n hX (pc := 8) (i := 2) (ls' := [(0, .ref o0), (1, .int 0), (2, .int 0)]) [1, 2, 0] dX5_bestSize_8 rfl (by decide) rfl ?_
  refine g_iconst hX (pc := 9) (v := 1) dX5_bestSize_9 (by decide) ?_
  refine g_istore_n hX (pc := 10) (i := 3) (ls' := [(0, .ref o0), (1, .int 0), (2, .int 0), (3, .int 1)]) [1, 2, 3, 0] dX5_bestSize_10 rfl (by decide) rfl ?_
  obtain ⟨p13, hpl6, h⟩ := bnd h
  have Kl6 : ∀ ql6 : Int32 × Int32 × Int32 × MI, ql6 = p13 → GW E X (QX E X 0 0 (some (.int rr)) z J Iz) 4 50 [(0, .ref o0), (1, .int ql6.1), (2, .int ql6.2.1), (3, .int ql6.2.2.1)] [] z J ql6.2.2.2 0 0 := by
    intro ql6 hql6
    subst hql6
    refine g_iload_n hX (pc := 50) (i := 1) dX5_bestSize_50 rfl 1 rfl ?_
    replace h := Option.some.inj h
    obtain ⟨rfl, rfl⟩ := Prod.mk.inj h
    exact g_ireturn hX (Nat.le_refl _) (Nat.le_refl _) dX5_bestSize_51
  obtain ⟨kl6, hkl6⟩ := lp_ex hpl6
  clear hpl6 h
  have Ll6 : ∀ k : Nat, ∀ (s2 : Int32) (s3 : Int32) (s4 : Int32) (I5 : MI), lpN k (b_X5_bestSize_11 o0 J) ((s2, s3, s4, I5)) = some p13 → GW E X (QX E X 0 0 (some (.int rr)) z J Iz) 4 11 [(0, .ref o0), (1, .int s2), (2, .int s3), (3, .int s4)] [] z J I5 0 0 := by
    intro k
    induction k with
    | zero => intro s2 s3 s4 I5 h; cases h
    | succ k ihl6 =>
      intro s2 s3 s4 I5 h
      obtain ⟨wl6, h, hwl6⟩ := lpN_s h
      unfold b_X5_bestSize_11 at h
      try dsimp only at h
      refine g_iload_n hX (pc := 11) (i := 3) dX5_bestSize_11 rfl 3 rfl ?_
      refine g_bipush hX (pc := 12) (v := 8) dX5_bestSize_12 (by decide) ?_
      refine g_icmp_gt hX (pc := 14) dX5_bestSize_14 (tgt := 50) (by decide) (fun c7 => ?_) (fun c7 => ?_)
      · replace h := ifP c7 h
        obtain rfl := Option.some.inj h
        exact Kl6 ((s2, s3, s4, I5)) hwl6
      · replace h := ifN c7 h
        refine g_aload_n hX (pc := 17) (i := 0) dX5_bestSize_17 rfl 0 rfl ?_
        refine g_iload_n hX (pc := 18) (i := 3) dX5_bestSize_18 rfl 3 rfl ?_
        obtain ⟨r8, e_r8, h⟩ := bnd h
        refine g_callVv hX (pc := 19) (d := d + 3) hr0 [.int s4] (c := 5) (ct_X5_laysSizes (d := d + 0) ho0 e_r8) ho0.1.1 ho0.1.2 (by decide) rfl co_X5_laysSizes ml_X5_345 im_X5_laysSizes sl_X5_laysSizes ini_X5 nm_X5_laysSizes (by decide) ⟨Nat.le_refl _, Nat.le_refl _⟩ (Nat.le_refl _) (Nat.le_of_ble_eq_true rfl) rfl dX5_bestSize_19 ?_
        refine g_iload_n hX (pc := 22) (i := 1) dX5_bestSize_22 rfl 1 rfl ?_
        obtain ⟨p12, hpj10, h⟩ := bnd h
        have Kj10 : ∀ qj10 : Int32 × Int32, qj10 = p12 → GW E X (QX E X 0 0 (some (.int rr)) z J Iz) 4 44 [(0, .ref o0), (1, .int qj10.1), (2, .int qj10.2), (3, .int s4)] [] z J r8 0 0 := by
          intro qj10 hqj10
          subst hqj10
          refine g_iinc hX (pc := 44) (i := 3) (v := s4 + 1) (ls' := [(0, .ref o0), (1, .int qj10.1), (2, .int qj10.2), (3, .int (s4 + 1))]) 3 [1, 2, 3, 0] dX5_bestSize_44 rfl (by rfl) (by decide) rfl ?_
          refine g_goto hX (pc := 47) (tgt := 11) dX5_bestSize_47 (by decide) ?_
          obtain rfl := Option.some.inj h
          exact ihl6 qj10.1 qj10.2 (s4 + 1) r8 hwl6
        replace h := hpj10
        clear hpj10
        refine g_if_le hX (pc := 23) dX5_bestSize_23 (tgt := 37) (by decide) (fun c9 => ?_) (fun c9 => ?_)
        · replace h := ifP c9 h
          refine g_aload_n hX (pc := 26) (i := 0) dX5_bestSize_26 rfl 0 rfl ?_
          refine gf5_41 hX (pc := 27) ho0 fl_X5_340 dX5_bestSize_27 ?_
          refine g_iload_n hX (pc := 30) (i := 2) dX5_bestSize_30 rfl 2 rfl ?_
          refine g_icmp_lt hX (pc := 31) dX5_bestSize_31 (tgt := 37) (by decide) (fun c11 => ?_) (fun c11 => ?_)
          · replace h := ifP c11 h
            refine g_iload_n hX (pc := 37) (i := 3) dX5_bestSize_37 rfl 3 rfl ?_
            refine g_istore_n hX (pc := 38) (i := 1) (ls' := [(0, .ref o0), (1, .int s4), (2, .int s3), (3, .int s4)]) [1, 0, 2, 3] dX5_bestSize_38 rfl (by decide) rfl ?_
            refine g_aload_n hX (pc := 39) (i := 0) dX5_bestSize_39 rfl 0 rfl ?_
            refine gf5_41 hX (pc := 40) ho0 fl_X5_340 dX5_bestSize_40 ?_
            refine g_istore_n hX (pc := 43) (i := 2) (ls' := [(0, .ref o0), (1, .int s4), (2, .int (r8 o0 41)), (3, .int s4)]) [1, 2, 0, 3] dX5_bestSize_43 rfl (by decide) rfl ?_
            exact Kj10 ((s4, r8 o0 41)) (Option.some.inj h)
          · replace h := ifN c11 h
            refine g_goto hX (pc := 34) (tgt := 44) dX5_bestSize_34 (by decide) ?_
            exact Kj10 ((s2, s3)) (Option.some.inj h)
        · replace h := ifN c9 h
          refine g_iload_n hX (pc := 37) (i := 3) dX5_bestSize_37 rfl 3 rfl ?_
          refine g_istore_n hX (pc := 38) (i := 1) (ls' := [(0, .ref o0), (1, .int s4), (2, .int s3), (3, .int s4)]) [1, 0, 2, 3] dX5_bestSize_38 rfl (by decide) rfl ?_
          refine g_aload_n hX (pc := 39) (i := 0) dX5_bestSize_39 rfl 0 rfl ?_
          refine gf5_41 hX (pc := 40) ho0 fl_X5_340 dX5_bestSize_40 ?_
          refine g_istore_n hX (pc := 43) (i := 2) (ls' := [(0, .ref o0), (1, .int s4), (2, .int (r8 o0 41)), (3, .int s4)]) [1, 2, 0, 3] dX5_bestSize_43 rfl (by decide) rfl ?_
          exact Kj10 ((s4, r8 o0 41)) (Option.some.inj h)
  exact Ll6 kl6 0 0 1 I1 hkl6
noncomputable def b_X5_wouldBe_7 (o0 : Nat) (s : Int32 × MI) : Option ((Int32 × MI) ⊕ (Int32 × MI)) :=
  if s.1 < 2117 then
    (rd 2117 (s.2 (o0 + 13)) s.1).bind fun v6 =>
    (wr 2117 s.2 (o0 + 17) s.1 v6).bind fun I7 =>
    some (.inl ((s.1 + 1, I7)))
  else
    some (.inr ((s.1, s.2)))
noncomputable def b_X5_wouldBe_51 (o0 : Nat) (s : Int32 × MI) : Option ((Int32 × MI) ⊕ (Int32 × MI)) :=
  if s.1 < 2117 then
    (rd 2117 (s.2 (o0 + 17)) s.1).bind fun v15 =>
    (wr 2117 s.2 (o0 + 13) s.1 v15).bind fun I16 =>
    some (.inl ((s.1 + 1, I16)))
  else
    some (.inr ((s.1, s.2)))
noncomputable def f_X5_wouldBe (o0 : Nat) (J : MJ) (I : MI) : Option (Int32 × MI) :=
  (wf I o0 0 0).bind fun I1 =>
  (lp (b_X5_wouldBe_7 o0) ((0, I1))).bind fun p8 =>
  (f_X5_goes o0 1000 J p8.2).bind fun r9 =>
  (rd 2117 (r9.2 (o0 + 13)) 2100).bind fun v10 =>
  (lp (b_X5_wouldBe_51 o0) ((0, r9.2))).bind fun p17 =>
  some ((v10, p17.2))
theorem nm_X5_wouldBe : yX5_wouldBe.cls ≠ "java/lang/invoke/MethodHandle" ∧ yX5_wouldBe.cls ≠ "java/lang/invoke/VarHandle" ∧ (parseMethodDescriptor yX5_wouldBe.desc).map (fun d => d.parameters.length) = some 0 := by decide +kernel
set_option maxRecDepth 100000 in
set_option maxHeartbeats 4000000 in
theorem ct_X5_wouldBe {E : Ev} {d : Nat} {z : Sh} {J : MJ} {I : MI} {o0 : Nat} {rr : Int32} {Iz : MI} (ho0 : oX5 z o0) (h : f_X5_wouldBe o0 J I = some ((rr, Iz))) : Ct E (d + 4) yX5_wouldBe cX5_wouldBe 3 (some .int) 0 0 [.ref o0] z J I (some (.int rr)) z J Iz := by
  unfold f_X5_wouldBe at h
  refine Ct.of (own := RX5) (ls := [(0, .ref o0)]) (by decide) rfl (Nat.le_of_ble_eq_true rfl) rfl ?_
  intro X hr0 hnm hX
  refine g_aload_n hX (pc := 0) (i := 0) dX5_wouldBe_0 rfl 0 rfl ?_
  refine g_iconst hX (pc := 1) (v := 0) dX5_wouldBe_1 (by decide) ?_
  obtain ⟨I1, e_I1, h⟩ := bnd h
  refine pf5_0 hX (pc := 2) ho0 fl_X5_86 dX5_wouldBe_2 e_I1 ?_
  refine g_iconst hX (pc := 5) (v := 0) dX5_wouldBe_5 (by decide) ?_
  refine g_istore_n hX (pc := 6) (i := 1) (ls' := [(0, .ref o0), (1, .int 0)]) [1, 0] dX5_wouldBe_6 rfl (by decide) rfl ?_
  obtain ⟨p8, hpl4, h⟩ := bnd h
  have Kl4 : ∀ ql4 : Int32 × MI, ql4 = p8 → GW E X (QX E X 0 0 (some (.int rr)) z J Iz) 3 32 [(0, .ref o0), (1, .int ql4.1)] [] z J ql4.2 0 0 := by
    intro ql4 hql4
    subst hql4
    refine g_aload_n hX (pc := 32) (i := 0) dX5_wouldBe_32 rfl 0 rfl ?_
    refine g_sipush hX (pc := 33) (v := 1000) dX5_wouldBe_33 (by decide) ?_
    obtain ⟨r9, e_r9, h⟩ := bnd h
    refine g_callVi hX (pc := 36) (d := d + 3) hr0 [.int 1000] (c := 5) (ct_X5_goes (d := d + 0) ho0 e_r9) ho0.1.1 ho0.1.2 (by decide) rfl co_X5_goes ml_X5_315 im_X5_goes sl_X5_goes ini_X5 nm_X5_goes (by decide) ⟨Nat.le_refl _, Nat.le_refl _⟩ (Nat.le_refl _) (Nat.le_of_ble_eq_true rfl) rfl dX5_wouldBe_36 ?_
    refine g_pop hX (pc := 39) dX5_wouldBe_39 rfl ?_
    refine g_aload_n hX (pc := 40) (i := 0) dX5_wouldBe_40 rfl 0 rfl ?_
    refine gf5_27 hX (pc := 41) ho0 fl_X5_48 dX5_wouldBe_41 ?_
    refine g_sipush hX (pc := 44) (v := 2100) dX5_wouldBe_44 (by decide) ?_
    obtain ⟨v10, e_v10, h⟩ := bnd h
    refine g_ialoadE hX (pc := 47) (s5_27 ho0).1 (s5_27 ho0).2.1 (s5_27 ho0).2.2.1 e_v10 dX5_wouldBe_47 ?_
    refine g_istore_n hX (pc := 48) (i := 1) (ls' := [(0, .ref o0), (1, .int v10)]) [1, 0] dX5_wouldBe_48 rfl (by decide) rfl ?_
    refine g_iconst hX (pc := 49) (v := 0) dX5_wouldBe_49 (by decide) ?_
    refine g_istore_n hX (pc := 50) (i := 2) (ls' := [(0, .ref o0), (1, .int v10), (2, .int 0)]) [1, 2, 0] dX5_wouldBe_50 rfl (by decide) rfl ?_
    obtain ⟨p17, hpl13, h⟩ := bnd h
    have Kl13 : ∀ ql13 : Int32 × MI, ql13 = p17 → GW E X (QX E X 0 0 (some (.int rr)) z J Iz) 3 76 [(0, .ref o0), (1, .int v10), (2, .int ql13.1)] [] z J ql13.2 0 0 := by
      intro ql13 hql13
      subst hql13
      refine g_iload_n hX (pc := 76) (i := 1) dX5_wouldBe_76 rfl 1 rfl ?_
      replace h := Option.some.inj h
      obtain ⟨rfl, rfl⟩ := Prod.mk.inj h
      exact g_ireturn hX (Nat.le_refl _) (Nat.le_refl _) dX5_wouldBe_77
    obtain ⟨kl13, hkl13⟩ := lp_ex hpl13
    clear hpl13 h
    have Ll13 : ∀ k : Nat, ∀ (s11 : Int32) (I12 : MI), lpN k (b_X5_wouldBe_51 o0) ((s11, I12)) = some p17 → GW E X (QX E X 0 0 (some (.int rr)) z J Iz) 3 51 [(0, .ref o0), (1, .int v10), (2, .int s11)] [] z J I12 0 0 := by
      intro k
      induction k with
      | zero => intro s11 I12 h; cases h
      | succ k ihl13 =>
        intro s11 I12 h
        obtain ⟨wl13, h, hwl13⟩ := lpN_s h
        unfold b_X5_wouldBe_51 at h
        try dsimp only at h
        refine g_iload_n hX (pc := 51) (i := 2) dX5_wouldBe_51 rfl 2 rfl ?_
        refine g_sipush hX (pc := 52) (v := 2117) dX5_wouldBe_52 (by decide) ?_
        refine g_icmp_ge hX (pc := 55) dX5_wouldBe_55 (tgt := 76) (by decide) (fun c14 => ?_) (fun c14 => ?_)
        · replace h := ifP c14 h
          refine g_aload_n hX (pc := 58) (i := 0) dX5_wouldBe_58 rfl 0 rfl ?_
          refine gf5_27 hX (pc := 59) ho0 fl_X5_48 dX5_wouldBe_59 ?_
          refine g_iload_n hX (pc := 62) (i := 2) dX5_wouldBe_62 rfl 2 rfl ?_
          refine g_aload_n hX (pc := 63) (i := 0) dX5_wouldBe_63 rfl 0 rfl ?_
          refine gf5_32 hX (pc := 64) ho0 fl_X5_61 dX5_wouldBe_64 ?_
          refine g_iload_n hX (pc := 67) (i := 2) dX5_wouldBe_67 rfl 2 rfl ?_
          obtain ⟨v15, e_v15, h⟩ := bnd h
          refine g_ialoadE hX (pc := 68) (s5_32 ho0).1 (s5_32 ho0).2.1 (s5_32 ho0).2.2.1 e_v15 dX5_wouldBe_68 ?_
          obtain ⟨I16, e_I16, h⟩ := bnd h
          refine g_iastoreE hX (pc := 69) (s5_27 ho0).1 (s5_27 ho0).2.1 (s5_27 ho0).2.2.1 e_I16 dX5_wouldBe_69 ?_
          refine g_iinc hX (pc := 70) (i := 2) (v := s11 + 1) (ls' := [(0, .ref o0), (1, .int v10), (2, .int (s11 + 1))]) 2 [1, 2, 0] dX5_wouldBe_70 rfl (by rfl) (by decide) rfl ?_
          refine g_goto hX (pc := 73) (tgt := 51) dX5_wouldBe_73 (by decide) ?_
          obtain rfl := Option.some.inj h
          exact ihl13 (s11 + 1) I16 hwl13
        · replace h := ifN c14 h
          obtain rfl := Option.some.inj h
          exact Kl13 ((s11, I12)) hwl13
    exact Ll13 kl13 0 r9.2 hkl13
  obtain ⟨kl4, hkl4⟩ := lp_ex hpl4
  clear hpl4 h
  have Ll4 : ∀ k : Nat, ∀ (s2 : Int32) (I3 : MI), lpN k (b_X5_wouldBe_7 o0) ((s2, I3)) = some p8 → GW E X (QX E X 0 0 (some (.int rr)) z J Iz) 3 7 [(0, .ref o0), (1, .int s2)] [] z J I3 0 0 := by
    intro k
    induction k with
    | zero => intro s2 I3 h; cases h
    | succ k ihl4 =>
      intro s2 I3 h
      obtain ⟨wl4, h, hwl4⟩ := lpN_s h
      unfold b_X5_wouldBe_7 at h
      try dsimp only at h
      refine g_iload_n hX (pc := 7) (i := 1) dX5_wouldBe_7 rfl 1 rfl ?_
      refine g_sipush hX (pc := 8) (v := 2117) dX5_wouldBe_8 (by decide) ?_
      refine g_icmp_ge hX (pc := 11) dX5_wouldBe_11 (tgt := 32) (by decide) (fun c5 => ?_) (fun c5 => ?_)
      · replace h := ifP c5 h
        refine g_aload_n hX (pc := 14) (i := 0) dX5_wouldBe_14 rfl 0 rfl ?_
        refine gf5_32 hX (pc := 15) ho0 fl_X5_61 dX5_wouldBe_15 ?_
        refine g_iload_n hX (pc := 18) (i := 1) dX5_wouldBe_18 rfl 1 rfl ?_
        refine g_aload_n hX (pc := 19) (i := 0) dX5_wouldBe_19 rfl 0 rfl ?_
        refine gf5_27 hX (pc := 20) ho0 fl_X5_48 dX5_wouldBe_20 ?_
        refine g_iload_n hX (pc := 23) (i := 1) dX5_wouldBe_23 rfl 1 rfl ?_
        obtain ⟨v6, e_v6, h⟩ := bnd h
        refine g_ialoadE hX (pc := 24) (s5_27 ho0).1 (s5_27 ho0).2.1 (s5_27 ho0).2.2.1 e_v6 dX5_wouldBe_24 ?_
        obtain ⟨I7, e_I7, h⟩ := bnd h
        refine g_iastoreE hX (pc := 25) (s5_32 ho0).1 (s5_32 ho0).2.1 (s5_32 ho0).2.2.1 e_I7 dX5_wouldBe_25 ?_
        refine g_iinc hX (pc := 26) (i := 1) (v := s2 + 1) (ls' := [(0, .ref o0), (1, .int (s2 + 1))]) 1 [1, 0] dX5_wouldBe_26 rfl (by rfl) (by decide) rfl ?_
        refine g_goto hX (pc := 29) (tgt := 7) dX5_wouldBe_29 (by decide) ?_
        obtain rfl := Option.some.inj h
        exact ihl4 (s2 + 1) I7 hwl4
      · replace h := ifN c5 h
        obtain rfl := Option.some.inj h
        exact Kl4 ((s2, I3)) hwl4
  exact Ll4 kl4 0 I1 hkl4
noncomputable def b_X5_undo_26 (o0 : Nat) (s : Int32 × MI) : Option ((Int32 × MI) ⊕ (Int32 × MI)) :=
  if s.1 < 2117 then
    (rd 25404 (s.2 (o0 + 14)) ((2117 * (s.2 o0 29)) + s.1)).bind fun v8 =>
    (wr 2117 s.2 (o0 + 13) s.1 v8).bind fun I9 =>
    some (.inl ((s.1 + 1, I9)))
  else
    some (.inr ((s.1, s.2)))
noncomputable def f_X5_undo (o0 : Nat) (J : MJ) (I : MI) : Option (Int32 × MI) :=
  (wf I o0 0 0).bind fun I1 =>
  if (I1 o0 29) = 0 then
    some (((-1), I1))
  else
    (wf I1 o0 29 ((I1 o0 29) - 1)).bind fun I3 =>
    (lp (b_X5_undo_26 o0) ((0, I3))).bind fun p10 =>
    some ((p10.2 o0 29, p10.2))
theorem nm_X5_undo : yX5_undo.cls ≠ "java/lang/invoke/MethodHandle" ∧ yX5_undo.cls ≠ "java/lang/invoke/VarHandle" ∧ (parseMethodDescriptor yX5_undo.desc).map (fun d => d.parameters.length) = some 0 := by decide +kernel
set_option maxRecDepth 100000 in
set_option maxHeartbeats 4000000 in
theorem ct_X5_undo {E : Ev} {d : Nat} {z : Sh} {J : MJ} {I : MI} {o0 : Nat} {rr : Int32} {Iz : MI} (ho0 : oX5 z o0) (h : f_X5_undo o0 J I = some ((rr, Iz))) : Ct E (d + 0) yX5_undo cX5_undo 2 (some .int) 0 0 [.ref o0] z J I (some (.int rr)) z J Iz := by
  unfold f_X5_undo at h
  refine Ct.of (own := RX5) (ls := [(0, .ref o0)]) (by decide) rfl (Nat.le_of_ble_eq_true rfl) rfl ?_
  intro X hr0 hnm hX
  refine g_aload_n hX (pc := 0) (i := 0) dX5_undo_0 rfl 0 rfl ?_
  refine g_iconst hX (pc := 1) (v := 0) dX5_undo_1 (by decide) ?_
  obtain ⟨I1, e_I1, h⟩ := bnd h
  refine pf5_0 hX (pc := 2) ho0 fl_X5_86 dX5_undo_2 e_I1 ?_
  refine g_aload_n hX (pc := 5) (i := 0) dX5_undo_5 rfl 0 rfl ?_
  refine gf5_29 hX (pc := 6) ho0 fl_X5_222 dX5_undo_6 ?_
  refine g_if_ne hX (pc := 9) dX5_undo_9 (tgt := 14) (by decide) (fun c2 => ?_) (fun c2 => ?_)
  · replace h := ifP c2 h
    refine g_iconst hX (pc := 12) (v := (-1)) dX5_undo_12 (by decide) ?_
    replace h := Option.some.inj h
    obtain ⟨rfl, rfl⟩ := Prod.mk.inj h
    exact g_ireturn hX (Nat.le_refl _) (Nat.le_refl _) dX5_undo_13
  · replace h := ifN c2 h
    refine g_aload_n hX (pc := 14) (i := 0) dX5_undo_14 rfl 0 rfl ?_
    refine g_dup hX (pc := 15) dX5_undo_15 rfl ?_
    refine gf5_29 hX (pc := 16) ho0 fl_X5_222 dX5_undo_16 ?_
    refine g_iconst hX (pc := 19) (v := 1) dX5_undo_19 (by decide) ?_
    refine g_isub hX (pc := 20) dX5_undo_20 ?_
    obtain ⟨I3, e_I3, h⟩ := bnd h
    refine pf5_29 hX (pc := 21) ho0 fl_X5_222 dX5_undo_21 e_I3 ?_
    refine g_iconst hX (pc := 24) (v := 0) dX5_undo_24 (by decide) ?_
    refine g_istore_n hX (pc := 25) (i := 1) (ls' := [(0, .ref o0), (1, .int 0)]) [1, 0] dX5_undo_25 rfl (by decide) rfl ?_
    obtain ⟨p10, hpl6, h⟩ := bnd h
    have Kl6 : ∀ ql6 : Int32 × MI, ql6 = p10 → GW E X (QX E X 0 0 (some (.int rr)) z J Iz) 2 60 [(0, .ref o0), (1, .int ql6.1)] [] z J ql6.2 0 0 := by
      intro ql6 hql6
      subst hql6
      refine g_aload_n hX (pc := 60) (i := 0) dX5_undo_60 rfl 0 rfl ?_
      refine gf5_29 hX (pc := 61) ho0 fl_X5_222 dX5_undo_61 ?_
      replace h := Option.some.inj h
      obtain ⟨rfl, rfl⟩ := Prod.mk.inj h
      exact g_ireturn hX (Nat.le_refl _) (Nat.le_refl _) dX5_undo_64
    obtain ⟨kl6, hkl6⟩ := lp_ex hpl6
    clear hpl6 h
    have Ll6 : ∀ k : Nat, ∀ (s4 : Int32) (I5 : MI), lpN k (b_X5_undo_26 o0) ((s4, I5)) = some p10 → GW E X (QX E X 0 0 (some (.int rr)) z J Iz) 2 26 [(0, .ref o0), (1, .int s4)] [] z J I5 0 0 := by
      intro k
      induction k with
      | zero => intro s4 I5 h; cases h
      | succ k ihl6 =>
        intro s4 I5 h
        obtain ⟨wl6, h, hwl6⟩ := lpN_s h
        unfold b_X5_undo_26 at h
        try dsimp only at h
        refine g_iload_n hX (pc := 26) (i := 1) dX5_undo_26 rfl 1 rfl ?_
        refine g_sipush hX (pc := 27) (v := 2117) dX5_undo_27 (by decide) ?_
        refine g_icmp_ge hX (pc := 30) dX5_undo_30 (tgt := 60) (by decide) (fun c7 => ?_) (fun c7 => ?_)
        · replace h := ifP c7 h
          refine g_aload_n hX (pc := 33) (i := 0) dX5_undo_33 rfl 0 rfl ?_
          refine gf5_27 hX (pc := 34) ho0 fl_X5_48 dX5_undo_34 ?_
          refine g_iload_n hX (pc := 37) (i := 1) dX5_undo_37 rfl 1 rfl ?_
          refine g_aload_n hX (pc := 38) (i := 0) dX5_undo_38 rfl 0 rfl ?_
          refine gf5_28 hX (pc := 39) ho0 fl_X5_51 dX5_undo_39 ?_
          refine g_sipush hX (pc := 42) (v := 2117) dX5_undo_42 (by decide) ?_
          refine g_aload_n hX (pc := 45) (i := 0) dX5_undo_45 rfl 0 rfl ?_
          refine gf5_29 hX (pc := 46) ho0 fl_X5_222 dX5_undo_46 ?_
          refine g_imul hX (pc := 49) dX5_undo_49 ?_
          refine g_iload_n hX (pc := 50) (i := 1) dX5_undo_50 rfl 1 rfl ?_
          refine g_iadd hX (pc := 51) dX5_undo_51 ?_
          obtain ⟨v8, e_v8, h⟩ := bnd h
          refine g_ialoadE hX (pc := 52) (s5_28 ho0).1 (s5_28 ho0).2.1 (s5_28 ho0).2.2.1 e_v8 dX5_undo_52 ?_
          obtain ⟨I9, e_I9, h⟩ := bnd h
          refine g_iastoreE hX (pc := 53) (s5_27 ho0).1 (s5_27 ho0).2.1 (s5_27 ho0).2.2.1 e_I9 dX5_undo_53 ?_
          refine g_iinc hX (pc := 54) (i := 1) (v := s4 + 1) (ls' := [(0, .ref o0), (1, .int (s4 + 1))]) 1 [1, 0] dX5_undo_54 rfl (by rfl) (by decide) rfl ?_
          refine g_goto hX (pc := 57) (tgt := 26) dX5_undo_57 (by decide) ?_
          obtain rfl := Option.some.inj h
          exact ihl6 (s4 + 1) I9 hwl6
        · replace h := ifN c7 h
          obtain rfl := Option.some.inj h
          exact Kl6 ((s4, I5)) hwl6
    exact Ll6 kl6 0 I3 hkl6
noncomputable def b_X5_keep_32 (o0 : Nat) (x1 : Int32) (x2 : Int32) (s : Int32 × MI) : Option ((Int32 × MI) ⊕ (Int32 × MI)) :=
  if s.1 < 2117 then
    (if x2 = 0 then
      (rd 2117 (s.2 (o0 + 13)) s.1).bind fun v11 =>
      (wr 4234 s.2 (o0 + 15) ((2117 * x1) + s.1) v11).bind fun I12 =>
      some I12
    else
      (rd 4234 (s.2 (o0 + 15)) ((2117 * x1) + s.1)).bind fun v13 =>
      (wr 2117 s.2 (o0 + 13) s.1 v13).bind fun I14 =>
      some I14).bind fun (p15 : MI) =>
    some (.inl ((s.1 + 1, p15)))
  else
    some (.inr ((s.1, s.2)))
noncomputable def b_X5_keep_32q (o0 : Nat) (x1 : Int32) (x2 : Int32) (s : Int32 × MI) : Option ((Int32 × MI) ⊕ (Int32 × MI)) :=
  if s.1 < 2117 then
    (if x2 = 0 then
      (rd 2117 (s.2 (o0 + 13)) s.1).bind fun v30 =>
      (wr 4234 s.2 (o0 + 15) ((2117 * x1) + s.1) v30).bind fun I31 =>
      some I31
    else
      (rd 4234 (s.2 (o0 + 15)) ((2117 * x1) + s.1)).bind fun v32 =>
      (wr 2117 s.2 (o0 + 13) s.1 v32).bind fun I33 =>
      some I33).bind fun (p34 : MI) =>
    some (.inl ((s.1 + 1, p34)))
  else
    some (.inr ((s.1, s.2)))
noncomputable def f_X5_keep (o0 : Nat) (x1 : Int32) (x2 : Int32) (J : MJ) (I : MI) : Option (Int32 × MI) :=
  (wf I o0 0 0).bind fun I1 =>
  (f_X5_within x1.toInt64 0 1).bind fun r2 =>
  if r2 = 0 then
    some ((0, I1))
  else
    if x2 = 0 then
      (lp (b_X5_keep_32 o0 x1 x2) ((0, I1))).bind fun p16 =>
      (if x2 = 0 then
        (wr 2 p16.2 (o0 + 16) x1 1).bind fun I19 =>
        some I19
      else
        (wf p16.2 o0 29 0).bind fun I20 =>
        some I20).bind fun (p21 : MI) =>
      some ((1, p21))
    else
      (rd 2 (I1 (o0 + 16)) x1).bind fun v22 =>
      if v22 = 0 then
        some ((0, I1))
      else
        (lp (b_X5_keep_32q o0 x1 x2) ((0, I1))).bind fun p35 =>
        (if x2 = 0 then
          (wr 2 p35.2 (o0 + 16) x1 1).bind fun I38 =>
          some I38
        else
          (wf p35.2 o0 29 0).bind fun I39 =>
          some I39).bind fun (p40 : MI) =>
        some ((1, p40))
theorem nm_X5_keep : yX5_keep.cls ≠ "java/lang/invoke/MethodHandle" ∧ yX5_keep.cls ≠ "java/lang/invoke/VarHandle" ∧ (parseMethodDescriptor yX5_keep.desc).map (fun d => d.parameters.length) = some 2 := by decide +kernel
set_option maxRecDepth 100000 in
set_option maxHeartbeats 4000000 in
theorem ct_X5_keep {E : Ev} {d : Nat} {z : Sh} {J : MJ} {I : MI} {o0 : Nat} {x1 : Int32} {x2 : Int32} {rr : Int32} {Iz : MI} (ho0 : oX5 z o0) (h : f_X5_keep o0 x1 x2 J I = some ((rr, Iz))) : Ct E (d + 1) yX5_keep cX5_keep 4 (some .boolean) 0 0 [.ref o0, .int x1, .int x2] z J I (some (.int rr)) z J Iz := by
  unfold f_X5_keep at h
  refine Ct.of (own := RX5) (ls := [(0, .ref o0), (1, .int x1), (2, .int x2)]) (by decide) rfl (Nat.le_of_ble_eq_true rfl) rfl ?_
  intro X hr0 hnm hX
  refine g_aload_n hX (pc := 0) (i := 0) dX5_keep_0 rfl 0 rfl ?_
  refine g_iconst hX (pc := 1) (v := 0) dX5_keep_1 (by decide) ?_
  obtain ⟨I1, e_I1, h⟩ := bnd h
  refine pf5_0 hX (pc := 2) ho0 fl_X5_86 dX5_keep_2 e_I1 ?_
  refine g_iload_n hX (pc := 5) (i := 1) dX5_keep_5 rfl 1 rfl ?_
  refine g_i2l hX (pc := 6) dX5_keep_6 ?_
  refine g_lconst hX (pc := 7) (v := 0) dX5_keep_7 (by decide) ?_
  refine g_lconst hX (pc := 8) (v := 1) dX5_keep_8 (by decide) ?_
  obtain ⟨r2, e_r2, h⟩ := bnd h
  refine g_callSi hX (pc := 9) (d := d + 0) hr0 [.long x1.toInt64, .long 0, .long 1] (ct_X5_within (d := d + 0)  e_r2) co_X5_within ml_X5_123 sta_X5_within ini_X5 nm_X5_within (by decide) ⟨Nat.le_refl _, Nat.le_refl _⟩ (Nat.le_refl _) (Nat.le_of_ble_eq_true rfl) rfl dX5_keep_9 ?_
  refine g_if_eq hX (pc := 12) dX5_keep_12 (tgt := 28) (by decide) (fun c3 => ?_) (fun c3 => ?_)
  · replace h := ifP c3 h
    refine g_iconst hX (pc := 28) (v := 0) dX5_keep_28 (by decide) ?_
    replace h := Option.some.inj h
    obtain ⟨rfl, rfl⟩ := Prod.mk.inj h
    exact g_zreturn hX (Or.inl rfl) (Nat.le_refl _) (Nat.le_refl _) dX5_keep_29
  · replace h := ifN c3 h
    refine g_iload_n hX (pc := 15) (i := 2) dX5_keep_15 rfl 2 rfl ?_
    refine g_if_eq hX (pc := 16) dX5_keep_16 (tgt := 30) (by decide) (fun c4 => ?_) (fun c4 => ?_)
    · replace h := ifP c4 h
      refine g_iconst hX (pc := 30) (v := 0) dX5_keep_30 (by decide) ?_
      refine g_istore_n hX (pc := 31) (i := 3) (ls' := [(0, .ref o0), (1, .int x1), (2, .int x2), (3, .int 0)]) [1, 2, 3, 0] dX5_keep_31 rfl (by decide) rfl ?_
      obtain ⟨p16, hpl7, h⟩ := bnd h
      have Kl7 : ∀ ql7 : Int32 × MI, ql7 = p16 → GW E X (QX E X 0 0 (some (.int rr)) z J Iz) 4 88 [(0, .ref o0), (1, .int x1), (2, .int x2), (3, .int ql7.1)] [] z J ql7.2 0 0 := by
        intro ql7 hql7
        subst hql7
        refine g_iload_n hX (pc := 88) (i := 2) dX5_keep_88 rfl 2 rfl ?_
        obtain ⟨p21, hpj18, h⟩ := bnd h
        have Kj18 : ∀ qj18 : MI, qj18 = p21 → GW E X (QX E X 0 0 (some (.int rr)) z J Iz) 4 107 [(0, .ref o0), (1, .int x1), (2, .int x2), (3, .int ql7.1)] [] z J qj18 0 0 := by
          intro qj18 hqj18
          subst hqj18
          refine g_iconst hX (pc := 107) (v := 1) dX5_keep_107 (by decide) ?_
          replace h := Option.some.inj h
          obtain ⟨rfl, rfl⟩ := Prod.mk.inj h
          exact g_zreturn hX (Or.inr rfl) (Nat.le_refl _) (Nat.le_refl _) dX5_keep_108
        replace h := hpj18
        clear hpj18
        refine g_if_eq hX (pc := 89) dX5_keep_89 (tgt := 100) (by decide) (fun c17 => ?_) (fun c17 => ?_)
        · replace h := ifP c17 h
          refine g_aload_n hX (pc := 100) (i := 0) dX5_keep_100 rfl 0 rfl ?_
          refine gf5_31 hX (pc := 101) ho0 fl_X5_57 dX5_keep_101 ?_
          refine g_iload_n hX (pc := 104) (i := 1) dX5_keep_104 rfl 1 rfl ?_
          refine g_iconst hX (pc := 105) (v := 1) dX5_keep_105 (by decide) ?_
          obtain ⟨I19, e_I19, h⟩ := bnd h
          refine g_zastoreE hX (pc := 106) (s5_31 ho0).1 (s5_31 ho0).2.1 (s5_31 ho0).2.2.1 e_I19 (by decide) dX5_keep_106 ?_
          exact Kj18 I19 (Option.some.inj h)
        · replace h := ifN c17 h
          refine g_aload_n hX (pc := 92) (i := 0) dX5_keep_92 rfl 0 rfl ?_
          refine g_iconst hX (pc := 93) (v := 0) dX5_keep_93 (by decide) ?_
          obtain ⟨I20, e_I20, h⟩ := bnd h
          refine pf5_29 hX (pc := 94) ho0 fl_X5_222 dX5_keep_94 e_I20 ?_
          refine g_goto hX (pc := 97) (tgt := 107) dX5_keep_97 (by decide) ?_
          exact Kj18 I20 (Option.some.inj h)
      obtain ⟨kl7, hkl7⟩ := lp_ex hpl7
      clear hpl7 h
      have Ll7 : ∀ k : Nat, ∀ (s5 : Int32) (I6 : MI), lpN k (b_X5_keep_32 o0 x1 x2) ((s5, I6)) = some p16 → GW E X (QX E X 0 0 (some (.int rr)) z J Iz) 4 32 [(0, .ref o0), (1, .int x1), (2, .int x2), (3, .int s5)] [] z J I6 0 0 := by
        intro k
        induction k with
        | zero => intro s5 I6 h; cases h
        | succ k ihl7 =>
          intro s5 I6 h
          obtain ⟨wl7, h, hwl7⟩ := lpN_s h
          unfold b_X5_keep_32 at h
          try dsimp only at h
          refine g_iload_n hX (pc := 32) (i := 3) dX5_keep_32 rfl 3 rfl ?_
          refine g_sipush hX (pc := 33) (v := 2117) dX5_keep_33 (by decide) ?_
          refine g_icmp_ge hX (pc := 36) dX5_keep_36 (tgt := 88) (by decide) (fun c8 => ?_) (fun c8 => ?_)
          · replace h := ifP c8 h
            refine g_iload_n hX (pc := 39) (i := 2) dX5_keep_39 rfl 2 rfl ?_
            obtain ⟨p15, hpj10, h⟩ := bnd h
            have Kj10 : ∀ qj10 : MI, qj10 = p15 → GW E X (QX E X 0 0 (some (.int rr)) z J Iz) 4 82 [(0, .ref o0), (1, .int x1), (2, .int x2), (3, .int s5)] [] z J qj10 0 0 := by
              intro qj10 hqj10
              subst hqj10
              refine g_iinc hX (pc := 82) (i := 3) (v := s5 + 1) (ls' := [(0, .ref o0), (1, .int x1), (2, .int x2), (3, .int (s5 + 1))]) 3 [1, 2, 3, 0] dX5_keep_82 rfl (by rfl) (by decide) rfl ?_
              refine g_goto hX (pc := 85) (tgt := 32) dX5_keep_85 (by decide) ?_
              obtain rfl := Option.some.inj h
              exact ihl7 (s5 + 1) qj10 hwl7
            replace h := hpj10
            clear hpj10
            refine g_if_eq hX (pc := 40) dX5_keep_40 (tgt := 64) (by decide) (fun c9 => ?_) (fun c9 => ?_)
            · replace h := ifP c9 h
              refine g_aload_n hX (pc := 64) (i := 0) dX5_keep_64 rfl 0 rfl ?_
              refine gf5_30 hX (pc := 65) ho0 fl_X5_54 dX5_keep_65 ?_
              refine g_sipush hX (pc := 68) (v := 2117) dX5_keep_68 (by decide) ?_
              refine g_iload_n hX (pc := 71) (i := 1) dX5_keep_71 rfl 1 rfl ?_
              refine g_imul hX (pc := 72) dX5_keep_72 ?_
              refine g_iload_n hX (pc := 73) (i := 3) dX5_keep_73 rfl 3 rfl ?_
              refine g_iadd hX (pc := 74) dX5_keep_74 ?_
              refine g_aload_n hX (pc := 75) (i := 0) dX5_keep_75 rfl 0 rfl ?_
              refine gf5_27 hX (pc := 76) ho0 fl_X5_48 dX5_keep_76 ?_
              refine g_iload_n hX (pc := 79) (i := 3) dX5_keep_79 rfl 3 rfl ?_
              obtain ⟨v11, e_v11, h⟩ := bnd h
              refine g_ialoadE hX (pc := 80) (s5_27 ho0).1 (s5_27 ho0).2.1 (s5_27 ho0).2.2.1 e_v11 dX5_keep_80 ?_
              obtain ⟨I12, e_I12, h⟩ := bnd h
              refine g_iastoreE hX (pc := 81) (s5_30 ho0).1 (s5_30 ho0).2.1 (s5_30 ho0).2.2.1 e_I12 dX5_keep_81 ?_
              exact Kj10 I12 (Option.some.inj h)
            · replace h := ifN c9 h
              refine g_aload_n hX (pc := 43) (i := 0) dX5_keep_43 rfl 0 rfl ?_
              refine gf5_27 hX (pc := 44) ho0 fl_X5_48 dX5_keep_44 ?_
              refine g_iload_n hX (pc := 47) (i := 3) dX5_keep_47 rfl 3 rfl ?_
              refine g_aload_n hX (pc := 48) (i := 0) dX5_keep_48 rfl 0 rfl ?_
              refine gf5_30 hX (pc := 49) ho0 fl_X5_54 dX5_keep_49 ?_
              refine g_sipush hX (pc := 52) (v := 2117) dX5_keep_52 (by decide) ?_
              refine g_iload_n hX (pc := 55) (i := 1) dX5_keep_55 rfl 1 rfl ?_
              refine g_imul hX (pc := 56) dX5_keep_56 ?_
              refine g_iload_n hX (pc := 57) (i := 3) dX5_keep_57 rfl 3 rfl ?_
              refine g_iadd hX (pc := 58) dX5_keep_58 ?_
              obtain ⟨v13, e_v13, h⟩ := bnd h
              refine g_ialoadE hX (pc := 59) (s5_30 ho0).1 (s5_30 ho0).2.1 (s5_30 ho0).2.2.1 e_v13 dX5_keep_59 ?_
              obtain ⟨I14, e_I14, h⟩ := bnd h
              refine g_iastoreE hX (pc := 60) (s5_27 ho0).1 (s5_27 ho0).2.1 (s5_27 ho0).2.2.1 e_I14 dX5_keep_60 ?_
              refine g_goto hX (pc := 61) (tgt := 82) dX5_keep_61 (by decide) ?_
              exact Kj10 I14 (Option.some.inj h)
          · replace h := ifN c8 h
            obtain rfl := Option.some.inj h
            exact Kl7 ((s5, I6)) hwl7
      exact Ll7 kl7 0 I1 hkl7
    · replace h := ifN c4 h
      refine g_aload_n hX (pc := 19) (i := 0) dX5_keep_19 rfl 0 rfl ?_
      refine gf5_31 hX (pc := 20) ho0 fl_X5_57 dX5_keep_20 ?_
      refine g_iload_n hX (pc := 23) (i := 1) dX5_keep_23 rfl 1 rfl ?_
      obtain ⟨v22, e_v22, h⟩ := bnd h
      refine g_zaloadE hX (pc := 24) (s5_31 ho0).1 (s5_31 ho0).2.1 (s5_31 ho0).2.2.1 e_v22 dX5_keep_24 ?_
      refine g_if_ne hX (pc := 25) dX5_keep_25 (tgt := 30) (by decide) (fun c23 => ?_) (fun c23 => ?_)
      · replace h := ifP c23 h
        refine g_iconst hX (pc := 28) (v := 0) dX5_keep_28 (by decide) ?_
        replace h := Option.some.inj h
        obtain ⟨rfl, rfl⟩ := Prod.mk.inj h
        exact g_zreturn hX (Or.inl rfl) (Nat.le_refl _) (Nat.le_refl _) dX5_keep_29
      · replace h := ifN c23 h
        refine g_iconst hX (pc := 30) (v := 0) dX5_keep_30 (by decide) ?_
        refine g_istore_n hX (pc := 31) (i := 3) (ls' := [(0, .ref o0), (1, .int x1), (2, .int x2), (3, .int 0)]) [1, 2, 3, 0] dX5_keep_31 rfl (by decide) rfl ?_
        obtain ⟨p35, hpl26, h⟩ := bnd h
        have Kl26 : ∀ ql26 : Int32 × MI, ql26 = p35 → GW E X (QX E X 0 0 (some (.int rr)) z J Iz) 4 88 [(0, .ref o0), (1, .int x1), (2, .int x2), (3, .int ql26.1)] [] z J ql26.2 0 0 := by
          intro ql26 hql26
          subst hql26
          refine g_iload_n hX (pc := 88) (i := 2) dX5_keep_88 rfl 2 rfl ?_
          obtain ⟨p40, hpj37, h⟩ := bnd h
          have Kj37 : ∀ qj37 : MI, qj37 = p40 → GW E X (QX E X 0 0 (some (.int rr)) z J Iz) 4 107 [(0, .ref o0), (1, .int x1), (2, .int x2), (3, .int ql26.1)] [] z J qj37 0 0 := by
            intro qj37 hqj37
            subst hqj37
            refine g_iconst hX (pc := 107) (v := 1) dX5_keep_107 (by decide) ?_
            replace h := Option.some.inj h
            obtain ⟨rfl, rfl⟩ := Prod.mk.inj h
            exact g_zreturn hX (Or.inr rfl) (Nat.le_refl _) (Nat.le_refl _) dX5_keep_108
          replace h := hpj37
          clear hpj37
          refine g_if_eq hX (pc := 89) dX5_keep_89 (tgt := 100) (by decide) (fun c36 => ?_) (fun c36 => ?_)
          · replace h := ifP c36 h
            refine g_aload_n hX (pc := 100) (i := 0) dX5_keep_100 rfl 0 rfl ?_
            refine gf5_31 hX (pc := 101) ho0 fl_X5_57 dX5_keep_101 ?_
            refine g_iload_n hX (pc := 104) (i := 1) dX5_keep_104 rfl 1 rfl ?_
            refine g_iconst hX (pc := 105) (v := 1) dX5_keep_105 (by decide) ?_
            obtain ⟨I38, e_I38, h⟩ := bnd h
            refine g_zastoreE hX (pc := 106) (s5_31 ho0).1 (s5_31 ho0).2.1 (s5_31 ho0).2.2.1 e_I38 (by decide) dX5_keep_106 ?_
            exact Kj37 I38 (Option.some.inj h)
          · replace h := ifN c36 h
            refine g_aload_n hX (pc := 92) (i := 0) dX5_keep_92 rfl 0 rfl ?_
            refine g_iconst hX (pc := 93) (v := 0) dX5_keep_93 (by decide) ?_
            obtain ⟨I39, e_I39, h⟩ := bnd h
            refine pf5_29 hX (pc := 94) ho0 fl_X5_222 dX5_keep_94 e_I39 ?_
            refine g_goto hX (pc := 97) (tgt := 107) dX5_keep_97 (by decide) ?_
            exact Kj37 I39 (Option.some.inj h)
        obtain ⟨kl26, hkl26⟩ := lp_ex hpl26
        clear hpl26 h
        have Ll26 : ∀ k : Nat, ∀ (s24 : Int32) (I25 : MI), lpN k (b_X5_keep_32q o0 x1 x2) ((s24, I25)) = some p35 → GW E X (QX E X 0 0 (some (.int rr)) z J Iz) 4 32 [(0, .ref o0), (1, .int x1), (2, .int x2), (3, .int s24)] [] z J I25 0 0 := by
          intro k
          induction k with
          | zero => intro s24 I25 h; cases h
          | succ k ihl26 =>
            intro s24 I25 h
            obtain ⟨wl26, h, hwl26⟩ := lpN_s h
            unfold b_X5_keep_32q at h
            try dsimp only at h
            refine g_iload_n hX (pc := 32) (i := 3) dX5_keep_32 rfl 3 rfl ?_
            refine g_sipush hX (pc := 33) (v := 2117) dX5_keep_33 (by decide) ?_
            refine g_icmp_ge hX (pc := 36) dX5_keep_36 (tgt := 88) (by decide) (fun c27 => ?_) (fun c27 => ?_)
            · replace h := ifP c27 h
              refine g_iload_n hX (pc := 39) (i := 2) dX5_keep_39 rfl 2 rfl ?_
              obtain ⟨p34, hpj29, h⟩ := bnd h
              have Kj29 : ∀ qj29 : MI, qj29 = p34 → GW E X (QX E X 0 0 (some (.int rr)) z J Iz) 4 82 [(0, .ref o0), (1, .int x1), (2, .int x2), (3, .int s24)] [] z J qj29 0 0 := by
                intro qj29 hqj29
                subst hqj29
                refine g_iinc hX (pc := 82) (i := 3) (v := s24 + 1) (ls' := [(0, .ref o0), (1, .int x1), (2, .int x2), (3, .int (s24 + 1))]) 3 [1, 2, 3, 0] dX5_keep_82 rfl (by rfl) (by decide) rfl ?_
                refine g_goto hX (pc := 85) (tgt := 32) dX5_keep_85 (by decide) ?_
                obtain rfl := Option.some.inj h
                exact ihl26 (s24 + 1) qj29 hwl26
              replace h := hpj29
              clear hpj29
              refine g_if_eq hX (pc := 40) dX5_keep_40 (tgt := 64) (by decide) (fun c28 => ?_) (fun c28 => ?_)
              · replace h := ifP c28 h
                refine g_aload_n hX (pc := 64) (i := 0) dX5_keep_64 rfl 0 rfl ?_
                refine gf5_30 hX (pc := 65) ho0 fl_X5_54 dX5_keep_65 ?_
                refine g_sipush hX (pc := 68) (v := 2117) dX5_keep_68 (by decide) ?_
                refine g_iload_n hX (pc := 71) (i := 1) dX5_keep_71 rfl 1 rfl ?_
                refine g_imul hX (pc := 72) dX5_keep_72 ?_
                refine g_iload_n hX (pc := 73) (i := 3) dX5_keep_73 rfl 3 rfl ?_
                refine g_iadd hX (pc := 74) dX5_keep_74 ?_
                refine g_aload_n hX (pc := 75) (i := 0) dX5_keep_75 rfl 0 rfl ?_
                refine gf5_27 hX (pc := 76) ho0 fl_X5_48 dX5_keep_76 ?_
                refine g_iload_n hX (pc := 79) (i := 3) dX5_keep_79 rfl 3 rfl ?_
                obtain ⟨v30, e_v30, h⟩ := bnd h
                refine g_ialoadE hX (pc := 80) (s5_27 ho0).1 (s5_27 ho0).2.1 (s5_27 ho0).2.2.1 e_v30 dX5_keep_80 ?_
                obtain ⟨I31, e_I31, h⟩ := bnd h
                refine g_iastoreE hX (pc := 81) (s5_30 ho0).1 (s5_30 ho0).2.1 (s5_30 ho0).2.2.1 e_I31 dX5_keep_81 ?_
                exact Kj29 I31 (Option.some.inj h)
              · replace h := ifN c28 h
                refine g_aload_n hX (pc := 43) (i := 0) dX5_keep_43 rfl 0 rfl ?_
                refine gf5_27 hX (pc := 44) ho0 fl_X5_48 dX5_keep_44 ?_
                refine g_iload_n hX (pc := 47) (i := 3) dX5_keep_47 rfl 3 rfl ?_
                refine g_aload_n hX (pc := 48) (i := 0) dX5_keep_48 rfl 0 rfl ?_
                refine gf5_30 hX (pc := 49) ho0 fl_X5_54 dX5_keep_49 ?_
                refine g_sipush hX (pc := 52) (v := 2117) dX5_keep_52 (by decide) ?_
                refine g_iload_n hX (pc := 55) (i := 1) dX5_keep_55 rfl 1 rfl ?_
                refine g_imul hX (pc := 56) dX5_keep_56 ?_
                refine g_iload_n hX (pc := 57) (i := 3) dX5_keep_57 rfl 3 rfl ?_
                refine g_iadd hX (pc := 58) dX5_keep_58 ?_
                obtain ⟨v32, e_v32, h⟩ := bnd h
                refine g_ialoadE hX (pc := 59) (s5_30 ho0).1 (s5_30 ho0).2.1 (s5_30 ho0).2.2.1 e_v32 dX5_keep_59 ?_
                obtain ⟨I33, e_I33, h⟩ := bnd h
                refine g_iastoreE hX (pc := 60) (s5_27 ho0).1 (s5_27 ho0).2.1 (s5_27 ho0).2.2.1 e_I33 dX5_keep_60 ?_
                refine g_goto hX (pc := 61) (tgt := 82) dX5_keep_61 (by decide) ?_
                exact Kj29 I33 (Option.some.inj h)
            · replace h := ifN c27 h
              obtain rfl := Option.some.inj h
              exact Kl26 ((s24, I25)) hwl26
        exact Ll26 kl26 0 I1 hkl26
noncomputable def b_X5_freeHoles_4 (o0 : Nat) (I : MI) (s : Int32 × Int32) : Option ((Int32 × Int32) ⊕ (Int32 × Int32)) :=
  (rd 2 (I (o0 + 4)) 0).bind fun v4 =>
  if s.2 < v4 then
    (rd 2117 (I (o0 + 13)) (362 + s.2)).bind fun v6 =>
    (if v6 < 0 then
      some 1
    else
      some 0).bind fun (p9 : Int32) =>
    some (.inl ((s.1 + p9, s.2 + 1)))
  else
    some (.inr ((s.1, s.2)))
noncomputable def f_X5_freeHoles (o0 : Nat) (J : MJ) (I : MI) : Option (Int32) :=
  (lp (b_X5_freeHoles_4 o0 I) ((0, 0))).bind fun p10 =>
  some p10.1
theorem nm_X5_freeHoles : yX5_freeHoles.cls ≠ "java/lang/invoke/MethodHandle" ∧ yX5_freeHoles.cls ≠ "java/lang/invoke/VarHandle" ∧ (parseMethodDescriptor yX5_freeHoles.desc).map (fun d => d.parameters.length) = some 0 := by decide +kernel
set_option maxRecDepth 100000 in
set_option maxHeartbeats 4000000 in
theorem ct_X5_freeHoles {E : Ev} {d : Nat} {z : Sh} {J : MJ} {I : MI} {o0 : Nat} {rr : Int32} (ho0 : oX5 z o0) (h : f_X5_freeHoles o0 J I = some rr) : Ct E (d + 0) yX5_freeHoles cX5_freeHoles 3 (some .int) 0 0 [.ref o0] z J I (some (.int rr)) z J I := by
  unfold f_X5_freeHoles at h
  refine Ct.of (own := RX5) (ls := [(0, .ref o0)]) (by decide) rfl (Nat.le_of_ble_eq_true rfl) rfl ?_
  intro X hr0 hnm hX
  refine g_iconst hX (pc := 0) (v := 0) dX5_freeHoles_0 (by decide) ?_
  refine g_istore_n hX (pc := 1) (i := 1) (ls' := [(0, .ref o0), (1, .int 0)]) [1, 0] dX5_freeHoles_1 rfl (by decide) rfl ?_
  refine g_iconst hX (pc := 2) (v := 0) dX5_freeHoles_2 (by decide) ?_
  refine g_istore_n hX (pc := 3) (i := 2) (ls' := [(0, .ref o0), (1, .int 0), (2, .int 0)]) [1, 2, 0] dX5_freeHoles_3 rfl (by decide) rfl ?_
  obtain ⟨p10, hpl3, h⟩ := bnd h
  have Kl3 : ∀ ql3 : Int32 × Int32, ql3 = p10 → GW E X (QX E X 0 0 (some (.int rr)) z J I) 3 41 [(0, .ref o0), (1, .int ql3.1), (2, .int ql3.2)] [] z J I 0 0 := by
    intro ql3 hql3
    subst hql3
    refine g_iload_n hX (pc := 41) (i := 1) dX5_freeHoles_41 rfl 1 rfl ?_
    obtain rfl := Option.some.inj h
    exact g_ireturn hX (Nat.le_refl _) (Nat.le_refl _) dX5_freeHoles_42
  obtain ⟨kl3, hkl3⟩ := lp_ex hpl3
  clear hpl3 h
  have Ll3 : ∀ k : Nat, ∀ (s1 : Int32) (s2 : Int32), lpN k (b_X5_freeHoles_4 o0 I) ((s1, s2)) = some p10 → GW E X (QX E X 0 0 (some (.int rr)) z J I) 3 4 [(0, .ref o0), (1, .int s1), (2, .int s2)] [] z J I 0 0 := by
    intro k
    induction k with
    | zero => intro s1 s2 h; cases h
    | succ k ihl3 =>
      intro s1 s2 h
      obtain ⟨wl3, h, hwl3⟩ := lpN_s h
      unfold b_X5_freeHoles_4 at h
      try dsimp only at h
      refine g_iload_n hX (pc := 4) (i := 2) dX5_freeHoles_4 rfl 2 rfl ?_
      refine g_aload_n hX (pc := 5) (i := 0) dX5_freeHoles_5 rfl 0 rfl ?_
      refine gf5_15 hX (pc := 6) ho0 fl_X5_20 dX5_freeHoles_6 ?_
      refine g_iconst hX (pc := 9) (v := 0) dX5_freeHoles_9 (by decide) ?_
      obtain ⟨v4, e_v4, h⟩ := bnd h
      refine g_ialoadE hX (pc := 10) (s5_15 ho0).1 (s5_15 ho0).2.1 (s5_15 ho0).2.2.1 e_v4 dX5_freeHoles_10 ?_
      refine g_icmp_ge hX (pc := 11) dX5_freeHoles_11 (tgt := 41) (by decide) (fun c5 => ?_) (fun c5 => ?_)
      · replace h := ifP c5 h
        refine g_iload_n hX (pc := 14) (i := 1) dX5_freeHoles_14 rfl 1 rfl ?_
        refine g_aload_n hX (pc := 15) (i := 0) dX5_freeHoles_15 rfl 0 rfl ?_
        refine gf5_27 hX (pc := 16) ho0 fl_X5_48 dX5_freeHoles_16 ?_
        refine g_sipush hX (pc := 19) (v := 362) dX5_freeHoles_19 (by decide) ?_
        refine g_iload_n hX (pc := 22) (i := 2) dX5_freeHoles_22 rfl 2 rfl ?_
        refine g_iadd hX (pc := 23) dX5_freeHoles_23 ?_
        obtain ⟨v6, e_v6, h⟩ := bnd h
        refine g_ialoadE hX (pc := 24) (s5_27 ho0).1 (s5_27 ho0).2.1 (s5_27 ho0).2.2.1 e_v6 dX5_freeHoles_24 ?_
        obtain ⟨p9, hpj8, h⟩ := bnd h
        have Kj8 : ∀ qj8 : Int32, qj8 = p9 → GW E X (QX E X 0 0 (some (.int rr)) z J I) 3 33 [(0, .ref o0), (1, .int s1), (2, .int s2)] [.int qj8, .int s1] z J I 0 0 := by
          intro qj8 hqj8
          subst hqj8
          refine g_iadd hX (pc := 33) dX5_freeHoles_33 ?_
          refine g_istore_n hX (pc := 34) (i := 1) (ls' := [(0, .ref o0), (1, .int (s1 + qj8)), (2, .int s2)]) [1, 0, 2] dX5_freeHoles_34 rfl (by decide) rfl ?_
          refine g_iinc hX (pc := 35) (i := 2) (v := s2 + 1) (ls' := [(0, .ref o0), (1, .int (s1 + qj8)), (2, .int (s2 + 1))]) 2 [1, 2, 0] dX5_freeHoles_35 rfl (by rfl) (by decide) rfl ?_
          refine g_goto hX (pc := 38) (tgt := 4) dX5_freeHoles_38 (by decide) ?_
          obtain rfl := Option.some.inj h
          exact ihl3 (s1 + qj8) (s2 + 1) hwl3
        replace h := hpj8
        clear hpj8
        refine g_if_ge hX (pc := 25) dX5_freeHoles_25 (tgt := 32) (by decide) (fun c7 => ?_) (fun c7 => ?_)
        · replace h := ifP c7 h
          refine g_iconst hX (pc := 28) (v := 1) dX5_freeHoles_28 (by decide) ?_
          refine g_goto hX (pc := 29) (tgt := 33) dX5_freeHoles_29 (by decide) ?_
          exact Kj8 1 (Option.some.inj h)
        · replace h := ifN c7 h
          refine g_iconst hX (pc := 32) (v := 0) dX5_freeHoles_32 (by decide) ?_
          exact Kj8 0 (Option.some.inj h)
      · replace h := ifN c5 h
        obtain rfl := Option.some.inj h
        exact Kl3 ((s1, s2)) hwl3
  exact Ll3 kl3 0 0 hkl3
noncomputable def b_X5_allLate_4 (o0 : Nat) (J : MJ) (I : MI) (s : Int32 × Int32) : Option ((Int32 × Int32) ⊕ (Int32 × Int32)) :=
  (rd 2 (I (o0 + 3)) 0).bind fun v4 =>
  if s.2 < v4 then
    (f_X5_sumOf o0 170 s.2 J I).bind fun r6 =>
    some (.inl ((s.1 + r6, s.2 + 1)))
  else
    some (.inr ((s.1, s.2)))
noncomputable def f_X5_allLate (o0 : Nat) (J : MJ) (I : MI) : Option (Int32) :=
  (lp (b_X5_allLate_4 o0 J I) ((0, 0))).bind fun p7 =>
  some p7.1
theorem nm_X5_allLate : yX5_allLate.cls ≠ "java/lang/invoke/MethodHandle" ∧ yX5_allLate.cls ≠ "java/lang/invoke/VarHandle" ∧ (parseMethodDescriptor yX5_allLate.desc).map (fun d => d.parameters.length) = some 0 := by decide +kernel
set_option maxRecDepth 100000 in
set_option maxHeartbeats 4000000 in
theorem ct_X5_allLate {E : Ev} {d : Nat} {z : Sh} {J : MJ} {I : MI} {o0 : Nat} {rr : Int32} (ho0 : oX5 z o0) (h : f_X5_allLate o0 J I = some rr) : Ct E (d + 1) yX5_allLate cX5_allLate 3 (some .int) 0 0 [.ref o0] z J I (some (.int rr)) z J I := by
  unfold f_X5_allLate at h
  refine Ct.of (own := RX5) (ls := [(0, .ref o0)]) (by decide) rfl (Nat.le_of_ble_eq_true rfl) rfl ?_
  intro X hr0 hnm hX
  refine g_iconst hX (pc := 0) (v := 0) dX5_allLate_0 (by decide) ?_
  refine g_istore_n hX (pc := 1) (i := 1) (ls' := [(0, .ref o0), (1, .int 0)]) [1, 0] dX5_allLate_1 rfl (by decide) rfl ?_
  refine g_iconst hX (pc := 2) (v := 0) dX5_allLate_2 (by decide) ?_
  refine g_istore_n hX (pc := 3) (i := 2) (ls' := [(0, .ref o0), (1, .int 0), (2, .int 0)]) [1, 2, 0] dX5_allLate_3 rfl (by decide) rfl ?_
  obtain ⟨p7, hpl3, h⟩ := bnd h
  have Kl3 : ∀ ql3 : Int32 × Int32, ql3 = p7 → GW E X (QX E X 0 0 (some (.int rr)) z J I) 3 31 [(0, .ref o0), (1, .int ql3.1), (2, .int ql3.2)] [] z J I 0 0 := by
    intro ql3 hql3
    subst hql3
    refine g_iload_n hX (pc := 31) (i := 1) dX5_allLate_31 rfl 1 rfl ?_
    obtain rfl := Option.some.inj h
    exact g_ireturn hX (Nat.le_refl _) (Nat.le_refl _) dX5_allLate_32
  obtain ⟨kl3, hkl3⟩ := lp_ex hpl3
  clear hpl3 h
  have Ll3 : ∀ k : Nat, ∀ (s1 : Int32) (s2 : Int32), lpN k (b_X5_allLate_4 o0 J I) ((s1, s2)) = some p7 → GW E X (QX E X 0 0 (some (.int rr)) z J I) 3 4 [(0, .ref o0), (1, .int s1), (2, .int s2)] [] z J I 0 0 := by
    intro k
    induction k with
    | zero => intro s1 s2 h; cases h
    | succ k ihl3 =>
      intro s1 s2 h
      obtain ⟨wl3, h, hwl3⟩ := lpN_s h
      unfold b_X5_allLate_4 at h
      try dsimp only at h
      refine g_iload_n hX (pc := 4) (i := 2) dX5_allLate_4 rfl 2 rfl ?_
      refine g_aload_n hX (pc := 5) (i := 0) dX5_allLate_5 rfl 0 rfl ?_
      refine gf5_14 hX (pc := 6) ho0 fl_X5_17 dX5_allLate_6 ?_
      refine g_iconst hX (pc := 9) (v := 0) dX5_allLate_9 (by decide) ?_
      obtain ⟨v4, e_v4, h⟩ := bnd h
      refine g_ialoadE hX (pc := 10) (s5_14 ho0).1 (s5_14 ho0).2.1 (s5_14 ho0).2.2.1 e_v4 dX5_allLate_10 ?_
      refine g_icmp_ge hX (pc := 11) dX5_allLate_11 (tgt := 31) (by decide) (fun c5 => ?_) (fun c5 => ?_)
      · replace h := ifP c5 h
        refine g_iload_n hX (pc := 14) (i := 1) dX5_allLate_14 rfl 1 rfl ?_
        refine g_aload_n hX (pc := 15) (i := 0) dX5_allLate_15 rfl 0 rfl ?_
        refine g_sipush hX (pc := 16) (v := 170) dX5_allLate_16 (by decide) ?_
        refine g_iload_n hX (pc := 19) (i := 2) dX5_allLate_19 rfl 2 rfl ?_
        obtain ⟨r6, e_r6, h⟩ := bnd h
        refine g_callVi hX (pc := 20) (d := d + 0) hr0 [.int 170, .int s2] (c := 5) (ct_X5_sumOf (d := d + 0) ho0 e_r6) ho0.1.1 ho0.1.2 (by decide) rfl co_X5_sumOf ml_X5_240 im_X5_sumOf sl_X5_sumOf ini_X5 nm_X5_sumOf (by decide) ⟨Nat.le_refl _, Nat.le_refl _⟩ (Nat.le_refl _) (Nat.le_of_ble_eq_true rfl) rfl dX5_allLate_20 ?_
        refine g_iadd hX (pc := 23) dX5_allLate_23 ?_
        refine g_istore_n hX (pc := 24) (i := 1) (ls' := [(0, .ref o0), (1, .int (s1 + r6)), (2, .int s2)]) [1, 0, 2] dX5_allLate_24 rfl (by decide) rfl ?_
        refine g_iinc hX (pc := 25) (i := 2) (v := s2 + 1) (ls' := [(0, .ref o0), (1, .int (s1 + r6)), (2, .int (s2 + 1))]) 2 [1, 2, 0] dX5_allLate_25 rfl (by rfl) (by decide) rfl ?_
        refine g_goto hX (pc := 28) (tgt := 4) dX5_allLate_28 (by decide) ?_
        obtain rfl := Option.some.inj h
        exact ihl3 (s1 + r6) (s2 + 1) hwl3
      · replace h := ifN c5 h
        obtain rfl := Option.some.inj h
        exact Kl3 ((s1, s2)) hwl3
  exact Ll3 kl3 0 0 hkl3
