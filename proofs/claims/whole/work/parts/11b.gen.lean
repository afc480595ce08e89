noncomputable def f_X5_order (o0 : Nat) (x1 : Int32) (x2 : Int32) (J : MJ) (I : MI) : Option (Int32 × MI) :=
  (f_X5_isOrder o0 x1 J I).bind fun r1 =>
  (if r1 = 0 then
    some 1
  else
    (f_X5_within x2.toInt64 0 5).bind fun r4 =>
    if r4 = 0 then
      some 1
    else
      some 0).bind fun (p6 : Int32) =>
  (wf I o0 0 p6).bind fun I7 =>
  if (I7 o0 0) = 1 then
    some ((0, I7))
  else
    if x2 = 0 then
      (rd 32 (I7 (o0 + 11)) x1).bind fun v10 =>
      some ((v10, I7))
    else
      if x2 = 1 then
        (f_X5_needOf o0 x1 J I7).bind fun r12 =>
        some ((r12, I7))
      else
        if x2 = 2 then
          (f_X5_sumOf o0 10 x1 J I7).bind fun r14 =>
          some ((r14, I7))
        else
          if x2 = 3 then
            (f_X5_sumOf o0 170 x1 J I7).bind fun r16 =>
            some ((r16, I7))
          else
            if x2 = 4 then
              (rd 2117 (I7 (o0 + 13)) (330 + x1)).bind fun v18 =>
              some ((v18, I7))
            else
              (rd 2117 (I7 (o0 + 13)) (346 + x1)).bind fun v19 =>
              some ((v19, I7))
theorem nm_X5_order : yX5_order.cls ≠ "java/lang/invoke/MethodHandle" ∧ yX5_order.cls ≠ "java/lang/invoke/VarHandle" ∧ (parseMethodDescriptor yX5_order.desc).map (fun d => d.parameters.length) = some 2 := by decide +kernel
set_option maxRecDepth 100000 in
set_option maxHeartbeats 4000000 in
theorem ct_X5_order {E : Ev} {d : Nat} {z : Sh} {J : MJ} {I : MI} {o0 : Nat} {x1 : Int32} {x2 : Int32} {rr : Int32} {Iz : MI} (ho0 : oX5 z o0) (h : f_X5_order o0 x1 x2 J I = some ((rr, Iz))) : Ct E (d + 2) yX5_order cX5_order 3 (some .int) 0 0 [.ref o0, .int x1, .int x2] z J I (some (.int rr)) z J Iz := by
  unfold f_X5_order at h
  refine Ct.of (own := RX5) (ls := [(0, .ref o0), (1, .int x1), (2, .int x2)]) (by decide) rfl (Nat.le_of_ble_eq_true rfl) rfl ?_
  intro X hr0 hnm hX
  refine g_aload_n hX (pc := 0) (i := 0) dX5_order_0 rfl 0 rfl ?_
  refine g_aload_n hX (pc := 1) (i := 0) dX5_order_1 rfl 0 rfl ?_
  refine g_iload_n hX (pc := 2) (i := 1) dX5_order_2 rfl 1 rfl ?_
  obtain ⟨r1, e_r1, h⟩ := bnd h
  refine g_callVi hX (pc := 3) (d := d + 1) hr0 [.int x1] (c := 5) (ct_X5_isOrder (d := d + 0) ho0 e_r1) ho0.1.1 ho0.1.2 (by decide) rfl co_X5_isOrder ml_X5_232 im_X5_isOrder sl_X5_isOrder ini_X5 nm_X5_isOrder (by decide) ⟨Nat.le_refl _, Nat.le_refl _⟩ (Nat.le_refl _) (Nat.le_of_ble_eq_true rfl) rfl dX5_order_3 ?_
  obtain ⟨p6, hpj3, h⟩ := bnd h
  have Kj3 : ∀ qj3 : Int32, qj3 = p6 → GW E X (QX E X 0 0 (some (.int rr)) z J Iz) 3 26 [(0, .ref o0), (1, .int x1), (2, .int x2)] [.int qj3, .ref o0] z J I 0 0 := by
    intro qj3 hqj3
    subst hqj3
    obtain ⟨I7, e_I7, h⟩ := bnd h
    refine pf5_0 hX (pc := 26) ho0 fl_X5_86 dX5_order_26 e_I7 ?_
    refine g_aload_n hX (pc := 29) (i := 0) dX5_order_29 rfl 0 rfl ?_
    refine gf5_0 hX (pc := 30) ho0 fl_X5_86 dX5_order_30 ?_
    refine g_iconst hX (pc := 33) (v := 1) dX5_order_33 (by decide) ?_
    refine g_icmp_ne hX (pc := 34) dX5_order_34 (tgt := 39) (by decide) (fun c8 => ?_) (fun c8 => ?_)
    · replace h := ifP c8 h
      refine g_iconst hX (pc := 37) (v := 0) dX5_order_37 (by decide) ?_
      replace h := Option.some.inj h
      obtain ⟨rfl, rfl⟩ := Prod.mk.inj h
      exact g_ireturn hX (Nat.le_refl _) (Nat.le_refl _) dX5_order_38
    · replace h := ifN c8 h
      refine g_iload_n hX (pc := 39) (i := 2) dX5_order_39 rfl 2 rfl ?_
      by_cases c9 : x2 = 0
      · replace h := ifP c9 h
        refine g_tableIn hX (pc := 40) (tgt := 76) (off := 36) dX5_order_40 (by rw [c9]; decide) (by rw [c9]; decide) (by rw [c9]; rfl) (by decide) ?_
        refine g_aload_n hX (pc := 76) (i := 0) dX5_order_76 rfl 0 rfl ?_
        refine gf5_22 hX (pc := 77) ho0 fl_X5_42 dX5_order_77 ?_
        refine g_iload_n hX (pc := 80) (i := 1) dX5_order_80 rfl 1 rfl ?_
        obtain ⟨v10, e_v10, h⟩ := bnd h
        refine g_ialoadE hX (pc := 81) (s5_22 ho0).1 (s5_22 ho0).2.1 (s5_22 ho0).2.2.1 e_v10 dX5_order_81 ?_
        replace h := Option.some.inj h
        obtain ⟨rfl, rfl⟩ := Prod.mk.inj h
        exact g_ireturn hX (Nat.le_refl _) (Nat.le_refl _) dX5_order_82
      · replace h := ifN c9 h
        by_cases c11 : x2 = 1
        · replace h := ifP c11 h
          refine g_tableIn hX (pc := 40) (tgt := 83) (off := 43) dX5_order_40 (by rw [c11]; decide) (by rw [c11]; decide) (by rw [c11]; rfl) (by decide) ?_
          refine g_aload_n hX (pc := 83) (i := 0) dX5_order_83 rfl 0 rfl ?_
          refine g_iload_n hX (pc := 84) (i := 1) dX5_order_84 rfl 1 rfl ?_
          obtain ⟨r12, e_r12, h⟩ := bnd h
          refine g_callVi hX (pc := 85) (d := d + 1) hr0 [.int x1] (c := 5) (ct_X5_needOf (d := d + 1) ho0 e_r12) ho0.1.1 ho0.1.2 (by decide) rfl co_X5_needOf ml_X5_237 im_X5_needOf sl_X5_needOf ini_X5 nm_X5_needOf (by decide) ⟨Nat.le_refl _, Nat.le_refl _⟩ (Nat.le_refl _) (Nat.le_of_ble_eq_true rfl) rfl dX5_order_85 ?_
          replace h := Option.some.inj h
          obtain ⟨rfl, rfl⟩ := Prod.mk.inj h
          exact g_ireturn hX (Nat.le_refl _) (Nat.le_refl _) dX5_order_88
        · replace h := ifN c11 h
          by_cases c13 : x2 = 2
          · replace h := ifP c13 h
            refine g_tableIn hX (pc := 40) (tgt := 89) (off := 49) dX5_order_40 (by rw [c13]; decide) (by rw [c13]; decide) (by rw [c13]; rfl) (by decide) ?_
            refine g_aload_n hX (pc := 89) (i := 0) dX5_order_89 rfl 0 rfl ?_
            refine g_bipush hX (pc := 90) (v := 10) dX5_order_90 (by decide) ?_
            refine g_iload_n hX (pc := 92) (i := 1) dX5_order_92 rfl 1 rfl ?_
            obtain ⟨r14, e_r14, h⟩ := bnd h
            refine g_callVi hX (pc := 93) (d := d + 1) hr0 [.int 10, .int x1] (c := 5) (ct_X5_sumOf (d := d + 1) ho0 e_r14) ho0.1.1 ho0.1.2 (by decide) rfl co_X5_sumOf ml_X5_240 im_X5_sumOf sl_X5_sumOf ini_X5 nm_X5_sumOf (by decide) ⟨Nat.le_refl _, Nat.le_refl _⟩ (Nat.le_refl _) (Nat.le_of_ble_eq_true rfl) rfl dX5_order_93 ?_
            replace h := Option.some.inj h
            obtain ⟨rfl, rfl⟩ := Prod.mk.inj h
            exact g_ireturn hX (Nat.le_refl _) (Nat.le_refl _) dX5_order_96
          · replace h := ifN c13 h
            by_cases c15 : x2 = 3
            · replace h := ifP c15 h
              refine g_tableIn hX (pc := 40) (tgt := 97) (off := 57) dX5_order_40 (by rw [c15]; decide) (by rw [c15]; decide) (by rw [c15]; rfl) (by decide) ?_
              refine g_aload_n hX (pc := 97) (i := 0) dX5_order_97 rfl 0 rfl ?_
              refine g_sipush hX (pc := 98) (v := 170) dX5_order_98 (by decide) ?_
              refine g_iload_n hX (pc := 101) (i := 1) dX5_order_101 rfl 1 rfl ?_
              obtain ⟨r16, e_r16, h⟩ := bnd h
              refine g_callVi hX (pc := 102) (d := d + 1) hr0 [.int 170, .int x1] (c := 5) (ct_X5_sumOf (d := d + 1) ho0 e_r16) ho0.1.1 ho0.1.2 (by decide) rfl co_X5_sumOf ml_X5_240 im_X5_sumOf sl_X5_sumOf ini_X5 nm_X5_sumOf (by decide) ⟨Nat.le_refl _, Nat.le_refl _⟩ (Nat.le_refl _) (Nat.le_of_ble_eq_true rfl) rfl dX5_order_102 ?_
              replace h := Option.some.inj h
              obtain ⟨rfl, rfl⟩ := Prod.mk.inj h
              exact g_ireturn hX (Nat.le_refl _) (Nat.le_refl _) dX5_order_105
            · replace h := ifN c15 h
              by_cases c17 : x2 = 4
              · replace h := ifP c17 h
                refine g_tableIn hX (pc := 40) (tgt := 106) (off := 66) dX5_order_40 (by rw [c17]; decide) (by rw [c17]; decide) (by rw [c17]; rfl) (by decide) ?_
                refine g_aload_n hX (pc := 106) (i := 0) dX5_order_106 rfl 0 rfl ?_
                refine gf5_27 hX (pc := 107) ho0 fl_X5_48 dX5_order_107 ?_
                refine g_sipush hX (pc := 110) (v := 330) dX5_order_110 (by decide) ?_
                refine g_iload_n hX (pc := 113) (i := 1) dX5_order_113 rfl 1 rfl ?_
                refine g_iadd hX (pc := 114) dX5_order_114 ?_
                obtain ⟨v18, e_v18, h⟩ := bnd h
                refine g_ialoadE hX (pc := 115) (s5_27 ho0).1 (s5_27 ho0).2.1 (s5_27 ho0).2.2.1 e_v18 dX5_order_115 ?_
                replace h := Option.some.inj h
                obtain ⟨rfl, rfl⟩ := Prod.mk.inj h
                exact g_ireturn hX (Nat.le_refl _) (Nat.le_refl _) dX5_order_116
              · replace h := ifN c17 h
                refine g_tableOut hX (pc := 40) (tgt := 117) dX5_order_40 (by have q0 := lv_neT c9 (show (0 : Int32).toInt = 0 by decide); have q1 := lv_neT c11 (show (1 : Int32).toInt = 1 by decide); have q2 := lv_neT c13 (show (2 : Int32).toInt = 2 by decide); have q3 := lv_neT c15 (show (3 : Int32).toInt = 3 by decide); have q4 := lv_neT c17 (show (4 : Int32).toInt = 4 by decide); omega) (by decide) ?_
                refine g_aload_n hX (pc := 117) (i := 0) dX5_order_117 rfl 0 rfl ?_
                refine gf5_27 hX (pc := 118) ho0 fl_X5_48 dX5_order_118 ?_
                refine g_sipush hX (pc := 121) (v := 346) dX5_order_121 (by decide) ?_
                refine g_iload_n hX (pc := 124) (i := 1) dX5_order_124 rfl 1 rfl ?_
                refine g_iadd hX (pc := 125) dX5_order_125 ?_
                obtain ⟨v19, e_v19, h⟩ := bnd h
                refine g_ialoadE hX (pc := 126) (s5_27 ho0).1 (s5_27 ho0).2.1 (s5_27 ho0).2.2.1 e_v19 dX5_order_126 ?_
                replace h := Option.some.inj h
                obtain ⟨rfl, rfl⟩ := Prod.mk.inj h
                exact g_ireturn hX (Nat.le_refl _) (Nat.le_refl _) dX5_order_127
  replace h := hpj3
  clear hpj3
  refine g_if_eq hX (pc := 6) dX5_order_6 (tgt := 25) (by decide) (fun c2 => ?_) (fun c2 => ?_)
  · replace h := ifP c2 h
    refine g_iconst hX (pc := 25) (v := 1) dX5_order_25 (by decide) ?_
    exact Kj3 1 (Option.some.inj h)
  · replace h := ifN c2 h
    refine g_iload_n hX (pc := 9) (i := 2) dX5_order_9 rfl 2 rfl ?_
    refine g_i2l hX (pc := 10) dX5_order_10 ?_
    refine g_lconst hX (pc := 11) (v := 0) dX5_order_11 (by decide) ?_
    refine g_ldc2 hX (pc := 12) cst_X5_235 dX5_order_12 ?_
    obtain ⟨r4, e_r4, h⟩ := bnd h
    refine g_callSi hX (pc := 15) (d := d + 1) hr0 [.long x2.toInt64, .long 0, .long 5] (ct_X5_within (d := d + 1)  e_r4) co_X5_within ml_X5_123 sta_X5_within ini_X5 nm_X5_within (by decide) ⟨Nat.le_refl _, Nat.le_refl _⟩ (Nat.le_refl _) (Nat.le_of_ble_eq_true rfl) rfl dX5_order_15 ?_
    refine g_if_eq hX (pc := 18) dX5_order_18 (tgt := 25) (by decide) (fun c5 => ?_) (fun c5 => ?_)
    · replace h := ifP c5 h
      refine g_iconst hX (pc := 25) (v := 1) dX5_order_25 (by decide) ?_
      exact Kj3 1 (Option.some.inj h)
    · replace h := ifN c5 h
      refine g_iconst hX (pc := 21) (v := 0) dX5_order_21 (by decide) ?_
      refine g_goto hX (pc := 22) (tgt := 26) dX5_order_22 (by decide) ?_
      exact Kj3 0 (Option.some.inj h)
noncomputable def f_X5_units (o0 : Nat) (x1 : Int32) (x2 : Int32) (x3 : Int32) (J : MJ) (I : MI) : Option (Int32 × MI) :=
  (wf I o0 0 0).bind fun I1 =>
  (f_X5_isOrder o0 x1 J I1).bind fun r2 =>
  if r2 = 0 then
    some (((-1), I1))
  else
    (f_X5_isItem o0 x2 J I1).bind fun r4 =>
    if r4 = 0 then
      some (((-1), I1))
    else
      (if x3 = 0 then
        (rd 320 (I1 (o0 + 12)) ((10 * x1) + x2)).bind fun v8 =>
        some v8
      else
        if x3 = 1 then
          (rd 2117 (I1 (o0 + 13)) ((10 + (10 * x1)) + x2)).bind fun v10 =>
          some v10
        else
          if x3 = 2 then
            (rd 2117 (I1 (o0 + 13)) ((170 + (10 * x1)) + x2)).bind fun v12 =>
            some v12
          else
            some ((-1))).bind fun (p13 : Int32) =>
      some ((p13, I1))
theorem nm_X5_units : yX5_units.cls ≠ "java/lang/invoke/MethodHandle" ∧ yX5_units.cls ≠ "java/lang/invoke/VarHandle" ∧ (parseMethodDescriptor yX5_units.desc).map (fun d => d.parameters.length) = some 3 := by decide +kernel
set_option maxRecDepth 100000 in
set_option maxHeartbeats 4000000 in
theorem ct_X5_units {E : Ev} {d : Nat} {z : Sh} {J : MJ} {I : MI} {o0 : Nat} {x1 : Int32} {x2 : Int32} {x3 : Int32} {rr : Int32} {Iz : MI} (ho0 : oX5 z o0) (h : f_X5_units o0 x1 x2 x3 J I = some ((rr, Iz))) : Ct E (d + 2) yX5_units cX5_units 4 (some .int) 0 0 [.ref o0, .int x1, .int x2, .int x3] z J I (some (.int rr)) z J Iz := by
  unfold f_X5_units at h
  refine Ct.of (own := RX5) (ls := [(0, .ref o0), (1, .int x1), (2, .int x2), (3, .int x3)]) (by decide) rfl (Nat.le_of_ble_eq_true rfl) rfl ?_
  intro X hr0 hnm hX
  refine g_aload_n hX (pc := 0) (i := 0) dX5_units_0 rfl 0 rfl ?_
  refine g_iconst hX (pc := 1) (v := 0) dX5_units_1 (by decide) ?_
  obtain ⟨I1, e_I1, h⟩ := bnd h
  refine pf5_0 hX (pc := 2) ho0 fl_X5_86 dX5_units_2 e_I1 ?_
  refine g_aload_n hX (pc := 5) (i := 0) dX5_units_5 rfl 0 rfl ?_
  refine g_iload_n hX (pc := 6) (i := 1) dX5_units_6 rfl 1 rfl ?_
  obtain ⟨r2, e_r2, h⟩ := bnd h
  refine g_callVi hX (pc := 7) (d := d + 1) hr0 [.int x1] (c := 5) (ct_X5_isOrder (d := d + 0) ho0 e_r2) ho0.1.1 ho0.1.2 (by decide) rfl co_X5_isOrder ml_X5_232 im_X5_isOrder sl_X5_isOrder ini_X5 nm_X5_isOrder (by decide) ⟨Nat.le_refl _, Nat.le_refl _⟩ (Nat.le_refl _) (Nat.le_of_ble_eq_true rfl) rfl dX5_units_7 ?_
  refine g_if_eq hX (pc := 10) dX5_units_10 (tgt := 21) (by decide) (fun c3 => ?_) (fun c3 => ?_)
  · replace h := ifP c3 h
    refine g_iconst hX (pc := 21) (v := (-1)) dX5_units_21 (by decide) ?_
    replace h := Option.some.inj h
    obtain ⟨rfl, rfl⟩ := Prod.mk.inj h
    exact g_ireturn hX (Nat.le_refl _) (Nat.le_refl _) dX5_units_22
  · replace h := ifN c3 h
    refine g_aload_n hX (pc := 13) (i := 0) dX5_units_13 rfl 0 rfl ?_
    refine g_iload_n hX (pc := 14) (i := 2) dX5_units_14 rfl 2 rfl ?_
    obtain ⟨r4, e_r4, h⟩ := bnd h
    refine g_callVi hX (pc := 15) (d := d + 1) hr0 [.int x2] (c := 5) (ct_X5_isItem (d := d + 0) ho0 e_r4) ho0.1.1 ho0.1.2 (by decide) rfl co_X5_isItem ml_X5_225 im_X5_isItem sl_X5_isItem ini_X5 nm_X5_isItem (by decide) ⟨Nat.le_refl _, Nat.le_refl _⟩ (Nat.le_refl _) (Nat.le_of_ble_eq_true rfl) rfl dX5_units_15 ?_
    refine g_if_ne hX (pc := 18) dX5_units_18 (tgt := 23) (by decide) (fun c5 => ?_) (fun c5 => ?_)
    · replace h := ifP c5 h
      refine g_iconst hX (pc := 21) (v := (-1)) dX5_units_21 (by decide) ?_
      replace h := Option.some.inj h
      obtain ⟨rfl, rfl⟩ := Prod.mk.inj h
      exact g_ireturn hX (Nat.le_refl _) (Nat.le_refl _) dX5_units_22
    · replace h := ifN c5 h
      refine g_iload_n hX (pc := 23) (i := 3) dX5_units_23 rfl 3 rfl ?_
      obtain ⟨p13, hpj7, h⟩ := bnd h
      have Kj7 : ∀ qj7 : Int32, qj7 = p13 → GW E X (QX E X 0 0 (some (.int rr)) z J Iz) 4 87 [(0, .ref o0), (1, .int x1), (2, .int x2), (3, .int x3)] [.int qj7] z J I1 0 0 := by
        intro qj7 hqj7
        subst hqj7
        replace h := Option.some.inj h
        obtain ⟨rfl, rfl⟩ := Prod.mk.inj h
        exact g_ireturn hX (Nat.le_refl _) (Nat.le_refl _) dX5_units_87
      replace h := hpj7
      clear hpj7
      refine g_if_ne hX (pc := 24) dX5_units_24 (tgt := 41) (by decide) (fun c6 => ?_) (fun c6 => ?_)
      · replace h := ifP c6 h
        refine g_aload_n hX (pc := 27) (i := 0) dX5_units_27 rfl 0 rfl ?_
        refine gf5_23 hX (pc := 28) ho0 fl_X5_45 dX5_units_28 ?_
        refine g_bipush hX (pc := 31) (v := 10) dX5_units_31 (by decide) ?_
        refine g_iload_n hX (pc := 33) (i := 1) dX5_units_33 rfl 1 rfl ?_
        refine g_imul hX (pc := 34) dX5_units_34 ?_
        refine g_iload_n hX (pc := 35) (i := 2) dX5_units_35 rfl 2 rfl ?_
        refine g_iadd hX (pc := 36) dX5_units_36 ?_
        obtain ⟨v8, e_v8, h⟩ := bnd h
        refine g_ialoadE hX (pc := 37) (s5_23 ho0).1 (s5_23 ho0).2.1 (s5_23 ho0).2.2.1 e_v8 dX5_units_37 ?_
        refine g_goto hX (pc := 38) (tgt := 87) dX5_units_38 (by decide) ?_
        exact Kj7 v8 (Option.some.inj h)
      · replace h := ifN c6 h
        refine g_iload_n hX (pc := 41) (i := 3) dX5_units_41 rfl 3 rfl ?_
        refine g_iconst hX (pc := 42) (v := 1) dX5_units_42 (by decide) ?_
        refine g_icmp_ne hX (pc := 43) dX5_units_43 (tgt := 63) (by decide) (fun c9 => ?_) (fun c9 => ?_)
        · replace h := ifP c9 h
          refine g_aload_n hX (pc := 46) (i := 0) dX5_units_46 rfl 0 rfl ?_
          refine gf5_27 hX (pc := 47) ho0 fl_X5_48 dX5_units_47 ?_
          refine g_bipush hX (pc := 50) (v := 10) dX5_units_50 (by decide) ?_
          refine g_bipush hX (pc := 52) (v := 10) dX5_units_52 (by decide) ?_
          refine g_iload_n hX (pc := 54) (i := 1) dX5_units_54 rfl 1 rfl ?_
          refine g_imul hX (pc := 55) dX5_units_55 ?_
          refine g_iadd hX (pc := 56) dX5_units_56 ?_
          refine g_iload_n hX (pc := 57) (i := 2) dX5_units_57 rfl 2 rfl ?_
          refine g_iadd hX (pc := 58) dX5_units_58 ?_
          obtain ⟨v10, e_v10, h⟩ := bnd h
          refine g_ialoadE hX (pc := 59) (s5_27 ho0).1 (s5_27 ho0).2.1 (s5_27 ho0).2.2.1 e_v10 dX5_units_59 ?_
          refine g_goto hX (pc := 60) (tgt := 87) dX5_units_60 (by decide) ?_
          exact Kj7 v10 (Option.some.inj h)
        · replace h := ifN c9 h
          refine g_iload_n hX (pc := 63) (i := 3) dX5_units_63 rfl 3 rfl ?_
          refine g_iconst hX (pc := 64) (v := 2) dX5_units_64 (by decide) ?_
          refine g_icmp_ne hX (pc := 65) dX5_units_65 (tgt := 86) (by decide) (fun c11 => ?_) (fun c11 => ?_)
          · replace h := ifP c11 h
            refine g_aload_n hX (pc := 68) (i := 0) dX5_units_68 rfl 0 rfl ?_
            refine gf5_27 hX (pc := 69) ho0 fl_X5_48 dX5_units_69 ?_
            refine g_sipush hX (pc := 72) (v := 170) dX5_units_72 (by decide) ?_
            refine g_bipush hX (pc := 75) (v := 10) dX5_units_75 (by decide) ?_
            refine g_iload_n hX (pc := 77) (i := 1) dX5_units_77 rfl 1 rfl ?_
            refine g_imul hX (pc := 78) dX5_units_78 ?_
            refine g_iadd hX (pc := 79) dX5_units_79 ?_
            refine g_iload_n hX (pc := 80) (i := 2) dX5_units_80 rfl 2 rfl ?_
            refine g_iadd hX (pc := 81) dX5_units_81 ?_
            obtain ⟨v12, e_v12, h⟩ := bnd h
            refine g_ialoadE hX (pc := 82) (s5_27 ho0).1 (s5_27 ho0).2.1 (s5_27 ho0).2.2.1 e_v12 dX5_units_82 ?_
            refine g_goto hX (pc := 83) (tgt := 87) dX5_units_83 (by decide) ?_
            exact Kj7 v12 (Option.some.inj h)
          · replace h := ifN c11 h
            refine g_iconst hX (pc := 86) (v := (-1)) dX5_units_86 (by decide) ?_
            exact Kj7 ((-1)) (Option.some.inj h)
noncomputable def f_X5_isEarlier (o0 : Nat) (x1 : Int32) (x2 : Int32) (J : MJ) (I : MI) : Option (Int32) :=
  (rd 32 (I (o0 + 11)) x1).bind fun v1 =>
  (rd 32 (I (o0 + 11)) x2).bind fun v2 =>
  (if v1 = v2 then
    if x1 < x2 then
      some 1
    else
      some 0
  else
    (rd 32 (I (o0 + 11)) x1).bind fun v6 =>
    (rd 32 (I (o0 + 11)) x2).bind fun v7 =>
    if v6 < v7 then
      some 1
    else
      some 0).bind fun (p9 : Int32) =>
  (gb p9).bind fun b10 =>
  some p9
theorem nm_X5_isEarlier : yX5_isEarlier.cls ≠ "java/lang/invoke/MethodHandle" ∧ yX5_isEarlier.cls ≠ "java/lang/invoke/VarHandle" ∧ (parseMethodDescriptor yX5_isEarlier.desc).map (fun d => d.parameters.length) = some 2 := by decide +kernel
set_option maxRecDepth 100000 in
set_option maxHeartbeats 4000000 in
theorem ct_X5_isEarlier {E : Ev} {d : Nat} {z : Sh} {J : MJ} {I : MI} {o0 : Nat} {x1 : Int32} {x2 : Int32} {rr : Int32} (ho0 : oX5 z o0) (h : f_X5_isEarlier o0 x1 x2 J I = some rr) : Ct E (d + 0) yX5_isEarlier cX5_isEarlier 3 (some .boolean) 0 0 [.ref o0, .int x1, .int x2] z J I (some (.int rr)) z J I := by
  unfold f_X5_isEarlier at h
  refine Ct.of (own := RX5) (ls := [(0, .ref o0), (1, .int x1), (2, .int x2)]) (by decide) rfl (Nat.le_of_ble_eq_true rfl) rfl ?_
  intro X hr0 hnm hX
  refine g_aload_n hX (pc := 0) (i := 0) dX5_isEarlier_0 rfl 0 rfl ?_
  refine gf5_22 hX (pc := 1) ho0 fl_X5_42 dX5_isEarlier_1 ?_
  refine g_iload_n hX (pc := 4) (i := 1) dX5_isEarlier_4 rfl 1 rfl ?_
  obtain ⟨v1, e_v1, h⟩ := bnd h
  refine g_ialoadE hX (pc := 5) (s5_22 ho0).1 (s5_22 ho0).2.1 (s5_22 ho0).2.2.1 e_v1 dX5_isEarlier_5 ?_
  refine g_aload_n hX (pc := 6) (i := 0) dX5_isEarlier_6 rfl 0 rfl ?_
  refine gf5_22 hX (pc := 7) ho0 fl_X5_42 dX5_isEarlier_7 ?_
  refine g_iload_n hX (pc := 10) (i := 2) dX5_isEarlier_10 rfl 2 rfl ?_
  obtain ⟨v2, e_v2, h⟩ := bnd h
  refine g_ialoadE hX (pc := 11) (s5_22 ho0).1 (s5_22 ho0).2.1 (s5_22 ho0).2.2.1 e_v2 dX5_isEarlier_11 ?_
  obtain ⟨p9, hpj4, h⟩ := bnd h
  have Kj4 : ∀ qj4 : Int32, qj4 = p9 → GW E X (QX E X 0 0 (some (.int rr)) z J I) 3 48 [(0, .ref o0), (1, .int x1), (2, .int x2)] [.int qj4] z J I 0 0 := by
    intro qj4 hqj4
    subst hqj4
    obtain ⟨b10, e_b10, h⟩ := bnd h
    obtain rfl := Option.some.inj h
    exact g_zreturn hX (gb_some e_b10).1 (Nat.le_refl _) (Nat.le_refl _) dX5_isEarlier_48
  replace h := hpj4
  clear hpj4
  refine g_icmp_eq hX (pc := 12) dX5_isEarlier_12 (tgt := 38) (by decide) (fun c3 => ?_) (fun c3 => ?_)
  · replace h := ifP c3 h
    refine g_iload_n hX (pc := 38) (i := 1) dX5_isEarlier_38 rfl 1 rfl ?_
    refine g_iload_n hX (pc := 39) (i := 2) dX5_isEarlier_39 rfl 2 rfl ?_
    refine g_icmp_ge hX (pc := 40) dX5_isEarlier_40 (tgt := 47) (by decide) (fun c5 => ?_) (fun c5 => ?_)
    · replace h := ifP c5 h
      refine g_iconst hX (pc := 43) (v := 1) dX5_isEarlier_43 (by decide) ?_
      refine g_goto hX (pc := 44) (tgt := 48) dX5_isEarlier_44 (by decide) ?_
      exact Kj4 1 (Option.some.inj h)
    · replace h := ifN c5 h
      refine g_iconst hX (pc := 47) (v := 0) dX5_isEarlier_47 (by decide) ?_
      exact Kj4 0 (Option.some.inj h)
  · replace h := ifN c3 h
    refine g_aload_n hX (pc := 15) (i := 0) dX5_isEarlier_15 rfl 0 rfl ?_
    refine gf5_22 hX (pc := 16) ho0 fl_X5_42 dX5_isEarlier_16 ?_
    refine g_iload_n hX (pc := 19) (i := 1) dX5_isEarlier_19 rfl 1 rfl ?_
    obtain ⟨v6, e_v6, h⟩ := bnd h
    refine g_ialoadE hX (pc := 20) (s5_22 ho0).1 (s5_22 ho0).2.1 (s5_22 ho0).2.2.1 e_v6 dX5_isEarlier_20 ?_
    refine g_aload_n hX (pc := 21) (i := 0) dX5_isEarlier_21 rfl 0 rfl ?_
    refine gf5_22 hX (pc := 22) ho0 fl_X5_42 dX5_isEarlier_22 ?_
    refine g_iload_n hX (pc := 25) (i := 2) dX5_isEarlier_25 rfl 2 rfl ?_
    obtain ⟨v7, e_v7, h⟩ := bnd h
    refine g_ialoadE hX (pc := 26) (s5_22 ho0).1 (s5_22 ho0).2.1 (s5_22 ho0).2.2.1 e_v7 dX5_isEarlier_26 ?_
    refine g_icmp_ge hX (pc := 27) dX5_isEarlier_27 (tgt := 34) (by decide) (fun c8 => ?_) (fun c8 => ?_)
    · replace h := ifP c8 h
      refine g_iconst hX (pc := 30) (v := 1) dX5_isEarlier_30 (by decide) ?_
      refine g_goto hX (pc := 31) (tgt := 48) dX5_isEarlier_31 (by decide) ?_
      exact Kj4 1 (Option.some.inj h)
    · replace h := ifN c8 h
      refine g_iconst hX (pc := 34) (v := 0) dX5_isEarlier_34 (by decide) ?_
      refine g_goto hX (pc := 35) (tgt := 48) dX5_isEarlier_35 (by decide) ?_
      exact Kj4 0 (Option.some.inj h)
noncomputable def b_X5_alikeOf_5 (o0 : Nat) (x1 : Int32) (x2 : Int32) (I : MI) (s : Int32 × Int32) : Option ((Int32 × Int32) ⊕ (Int32 × Int32)) :=
  if s.2 < 10 then
    (rd 320 (I (o0 + 12)) ((10 * x1) + s.2)).bind fun v5 =>
    (if 0 < v5 then
      (rd 320 (I (o0 + 12)) ((10 * x2) + s.2)).bind fun v8 =>
      if 0 < v8 then
        some 1
      else
        some 0
    else
      some 0).bind fun (p10 : Int32) =>
    some (.inl ((s.1 + p10, s.2 + 1)))
  else
    some (.inr ((s.1, s.2)))
noncomputable def f_X5_alikeOf (o0 : Nat) (x1 : Int32) (x2 : Int32) (J : MJ) (I : MI) : Option (Int32) :=
  (lp (b_X5_alikeOf_5 o0 x1 x2 I) ((0, 0))).bind fun p11 =>
  some p11.1
theorem nm_X5_alikeOf : yX5_alikeOf.cls ≠ "java/lang/invoke/MethodHandle" ∧ yX5_alikeOf.cls ≠ "java/lang/invoke/VarHandle" ∧ (parseMethodDescriptor yX5_alikeOf.desc).map (fun d => d.parameters.length) = some 2 := by decide +kernel
set_option maxRecDepth 100000 in
set_option maxHeartbeats 4000000 in
theorem ct_X5_alikeOf {E : Ev} {d : Nat} {z : Sh} {J : MJ} {I : MI} {o0 : Nat} {x1 : Int32} {x2 : Int32} {rr : Int32} (ho0 : oX5 z o0) (h : f_X5_alikeOf o0 x1 x2 J I = some rr) : Ct E (d + 0) yX5_alikeOf cX5_alikeOf 5 (some .int) 0 0 [.ref o0, .int x1, .int x2] z J I (some (.int rr)) z J I := by
  unfold f_X5_alikeOf at h
  refine Ct.of (own := RX5) (ls := [(0, .ref o0), (1, .int x1), (2, .int x2)]) (by decide) rfl (Nat.le_of_ble_eq_true rfl) rfl ?_
  intro X hr0 hnm hX
  refine g_iconst hX (pc := 0) (v := 0) dX5_alikeOf_0 (by decide) ?_
  refine g_istore_n hX (pc := 1) (i := 3) (ls' := [(0, .ref o0), (1, .int x1), (2, .int x2), (3, .int 0)]) [1, 2, 3, 0] dX5_alikeOf_1 rfl (by decide) rfl ?_
  refine g_iconst hX (pc := 2) (v := 0) dX5_alikeOf_2 (by decide) ?_
  refine g_istore hX (pc := 3) (ls' := [(0, .ref o0), (1, .int x1), (2, .int x2), (3, .int 0), (4, .int 0)]) [1, 2, 3, 4, 0] dX5_alikeOf_3 (by decide) rfl ?_
  obtain ⟨p11, hpl3, h⟩ := bnd h
  have Kl3 : ∀ ql3 : Int32 × Int32, ql3 = p11 → GW E X (QX E X 0 0 (some (.int rr)) z J I) 5 56 [(0, .ref o0), (1, .int x1), (2, .int x2), (3, .int ql3.1), (4, .int ql3.2)] [] z J I 0 0 := by
    intro ql3 hql3
    subst hql3
    refine g_iload_n hX (pc := 56) (i := 3) dX5_alikeOf_56 rfl 3 rfl ?_
    obtain rfl := Option.some.inj h
    exact g_ireturn hX (Nat.le_refl _) (Nat.le_refl _) dX5_alikeOf_57
  obtain ⟨kl3, hkl3⟩ := lp_ex hpl3
  clear hpl3 h
  have Ll3 : ∀ k : Nat, ∀ (s1 : Int32) (s2 : Int32), lpN k (b_X5_alikeOf_5 o0 x1 x2 I) ((s1, s2)) = some p11 → GW E X (QX E X 0 0 (some (.int rr)) z J I) 5 5 [(0, .ref o0), (1, .int x1), (2, .int x2), (3, .int s1), (4, .int s2)] [] z J I 0 0 := by
    intro k
    induction k with
    | zero => intro s1 s2 h; cases h
    | succ k ihl3 =>
      intro s1 s2 h
      obtain ⟨wl3, h, hwl3⟩ := lpN_s h
      unfold b_X5_alikeOf_5 at h
      try dsimp only at h
      refine g_iload hX (pc := 5) dX5_alikeOf_5 4 rfl ?_
      refine g_bipush hX (pc := 7) (v := 10) dX5_alikeOf_7 (by decide) ?_
      refine g_icmp_ge hX (pc := 9) dX5_alikeOf_9 (tgt := 56) (by decide) (fun c4 => ?_) (fun c4 => ?_)
      · replace h := ifP c4 h
        refine g_iload_n hX (pc := 12) (i := 3) dX5_alikeOf_12 rfl 3 rfl ?_
        refine g_aload_n hX (pc := 13) (i := 0) dX5_alikeOf_13 rfl 0 rfl ?_
        refine gf5_23 hX (pc := 14) ho0 fl_X5_45 dX5_alikeOf_14 ?_
        refine g_bipush hX (pc := 17) (v := 10) dX5_alikeOf_17 (by decide) ?_
        refine g_iload_n hX (pc := 19) (i := 1) dX5_alikeOf_19 rfl 1 rfl ?_
        refine g_imul hX (pc := 20) dX5_alikeOf_20 ?_
        refine g_iload hX (pc := 21) dX5_alikeOf_21 4 rfl ?_
        refine g_iadd hX (pc := 23) dX5_alikeOf_23 ?_
        obtain ⟨v5, e_v5, h⟩ := bnd h
        refine g_ialoadE hX (pc := 24) (s5_23 ho0).1 (s5_23 ho0).2.1 (s5_23 ho0).2.2.1 e_v5 dX5_alikeOf_24 ?_
        obtain ⟨p10, hpj7, h⟩ := bnd h
        have Kj7 : ∀ qj7 : Int32, qj7 = p10 → GW E X (QX E X 0 0 (some (.int rr)) z J I) 5 48 [(0, .ref o0), (1, .int x1), (2, .int x2), (3, .int s1), (4, .int s2)] [.int qj7, .int s1] z J I 0 0 := by
          intro qj7 hqj7
          subst hqj7
          refine g_iadd hX (pc := 48) dX5_alikeOf_48 ?_
          refine g_istore_n hX (pc := 49) (i := 3) (ls' := [(0, .ref o0), (1, .int x1), (2, .int x2), (3, .int (s1 + qj7)), (4, .int s2)]) [1, 2, 3, 0, 4] dX5_alikeOf_49 rfl (by decide) rfl ?_
          refine g_iinc hX (pc := 50) (i := 4) (v := s2 + 1) (ls' := [(0, .ref o0), (1, .int x1), (2, .int x2), (3, .int (s1 + qj7)), (4, .int (s2 + 1))]) 4 [1, 2, 3, 4, 0] dX5_alikeOf_50 rfl (by rfl) (by decide) rfl ?_
          refine g_goto hX (pc := 53) (tgt := 5) dX5_alikeOf_53 (by decide) ?_
          obtain rfl := Option.some.inj h
          exact ihl3 (s1 + qj7) (s2 + 1) hwl3
        replace h := hpj7
        clear hpj7
        refine g_if_le hX (pc := 25) dX5_alikeOf_25 (tgt := 47) (by decide) (fun c6 => ?_) (fun c6 => ?_)
        · replace h := ifP c6 h
          refine g_aload_n hX (pc := 28) (i := 0) dX5_alikeOf_28 rfl 0 rfl ?_
          refine gf5_23 hX (pc := 29) ho0 fl_X5_45 dX5_alikeOf_29 ?_
          refine g_bipush hX (pc := 32) (v := 10) dX5_alikeOf_32 (by decide) ?_
          refine g_iload_n hX (pc := 34) (i := 2) dX5_alikeOf_34 rfl 2 rfl ?_
          refine g_imul hX (pc := 35) dX5_alikeOf_35 ?_
          refine g_iload hX (pc := 36) dX5_alikeOf_36 4 rfl ?_
          refine g_iadd hX (pc := 38) dX5_alikeOf_38 ?_
          obtain ⟨v8, e_v8, h⟩ := bnd h
          refine g_ialoadE hX (pc := 39) (s5_23 ho0).1 (s5_23 ho0).2.1 (s5_23 ho0).2.2.1 e_v8 dX5_alikeOf_39 ?_
          refine g_if_le hX (pc := 40) dX5_alikeOf_40 (tgt := 47) (by decide) (fun c9 => ?_) (fun c9 => ?_)
          · replace h := ifP c9 h
            refine g_iconst hX (pc := 43) (v := 1) dX5_alikeOf_43 (by decide) ?_
            refine g_goto hX (pc := 44) (tgt := 48) dX5_alikeOf_44 (by decide) ?_
            exact Kj7 1 (Option.some.inj h)
          · replace h := ifN c9 h
            refine g_iconst hX (pc := 47) (v := 0) dX5_alikeOf_47 (by decide) ?_
            exact Kj7 0 (Option.some.inj h)
        · replace h := ifN c6 h
          refine g_iconst hX (pc := 47) (v := 0) dX5_alikeOf_47 (by decide) ?_
          exact Kj7 0 (Option.some.inj h)
      · replace h := ifN c4 h
        obtain rfl := Option.some.inj h
        exact Kl3 ((s1, s2)) hwl3
  exact Ll3 kl3 0 0 hkl3
noncomputable def f_X5_alike (o0 : Nat) (x1 : Int32) (x2 : Int32) (J : MJ) (I : MI) : Option (Int32 × MI) :=
  (wf I o0 0 0).bind fun I1 =>
  (f_X5_isOrder o0 x1 J I1).bind fun r2 =>
  (if r2 = 0 then
    some ((-1))
  else
    (f_X5_isOrder o0 x2 J I1).bind fun r5 =>
    if r5 = 0 then
      some ((-1))
    else
      (f_X5_alikeOf o0 x1 x2 J I1).bind fun r7 =>
      some r7).bind fun (p8 : Int32) =>
  some ((p8, I1))
theorem nm_X5_alike : yX5_alike.cls ≠ "java/lang/invoke/MethodHandle" ∧ yX5_alike.cls ≠ "java/lang/invoke/VarHandle" ∧ (parseMethodDescriptor yX5_alike.desc).map (fun d => d.parameters.length) = some 2 := by decide +kernel
set_option maxRecDepth 100000 in
set_option maxHeartbeats 4000000 in
theorem ct_X5_alike {E : Ev} {d : Nat} {z : Sh} {J : MJ} {I : MI} {o0 : Nat} {x1 : Int32} {x2 : Int32} {rr : Int32} {Iz : MI} (ho0 : oX5 z o0) (h : f_X5_alike o0 x1 x2 J I = some ((rr, Iz))) : Ct E (d + 2) yX5_alike cX5_alike 3 (some .int) 0 0 [.ref o0, .int x1, .int x2] z J I (some (.int rr)) z J Iz := by
  unfold f_X5_alike at h
  refine Ct.of (own := RX5) (ls := [(0, .ref o0), (1, .int x1), (2, .int x2)]) (by decide) rfl (Nat.le_of_ble_eq_true rfl) rfl ?_
  intro X hr0 hnm hX
  refine g_aload_n hX (pc := 0) (i := 0) dX5_alike_0 rfl 0 rfl ?_
  refine g_iconst hX (pc := 1) (v := 0) dX5_alike_1 (by decide) ?_
  obtain ⟨I1, e_I1, h⟩ := bnd h
  refine pf5_0 hX (pc := 2) ho0 fl_X5_86 dX5_alike_2 e_I1 ?_
  refine g_aload_n hX (pc := 5) (i := 0) dX5_alike_5 rfl 0 rfl ?_
  refine g_iload_n hX (pc := 6) (i := 1) dX5_alike_6 rfl 1 rfl ?_
  obtain ⟨r2, e_r2, h⟩ := bnd h
  refine g_callVi hX (pc := 7) (d := d + 1) hr0 [.int x1] (c := 5) (ct_X5_isOrder (d := d + 0) ho0 e_r2) ho0.1.1 ho0.1.2 (by decide) rfl co_X5_isOrder ml_X5_232 im_X5_isOrder sl_X5_isOrder ini_X5 nm_X5_isOrder (by decide) ⟨Nat.le_refl _, Nat.le_refl _⟩ (Nat.le_refl _) (Nat.le_of_ble_eq_true rfl) rfl dX5_alike_7 ?_
  obtain ⟨p8, hpj4, h⟩ := bnd h
  have Kj4 : ∀ qj4 : Int32, qj4 = p8 → GW E X (QX E X 0 0 (some (.int rr)) z J Iz) 3 31 [(0, .ref o0), (1, .int x1), (2, .int x2)] [.int qj4] z J I1 0 0 := by
    intro qj4 hqj4
    subst hqj4
    replace h := Option.some.inj h
    obtain ⟨rfl, rfl⟩ := Prod.mk.inj h
    exact g_ireturn hX (Nat.le_refl _) (Nat.le_refl _) dX5_alike_31
  replace h := hpj4
  clear hpj4
  refine g_if_eq hX (pc := 10) dX5_alike_10 (tgt := 30) (by decide) (fun c3 => ?_) (fun c3 => ?_)
  · replace h := ifP c3 h
    refine g_iconst hX (pc := 30) (v := (-1)) dX5_alike_30 (by decide) ?_
    exact Kj4 ((-1)) (Option.some.inj h)
  · replace h := ifN c3 h
    refine g_aload_n hX (pc := 13) (i := 0) dX5_alike_13 rfl 0 rfl ?_
    refine g_iload_n hX (pc := 14) (i := 2) dX5_alike_14 rfl 2 rfl ?_
    obtain ⟨r5, e_r5, h⟩ := bnd h
    refine g_callVi hX (pc := 15) (d := d + 1) hr0 [.int x2] (c := 5) (ct_X5_isOrder (d := d + 0) ho0 e_r5) ho0.1.1 ho0.1.2 (by decide) rfl co_X5_isOrder ml_X5_232 im_X5_isOrder sl_X5_isOrder ini_X5 nm_X5_isOrder (by decide) ⟨Nat.le_refl _, Nat.le_refl _⟩ (Nat.le_refl _) (Nat.le_of_ble_eq_true rfl) rfl dX5_alike_15 ?_
    refine g_if_eq hX (pc := 18) dX5_alike_18 (tgt := 30) (by decide) (fun c6 => ?_) (fun c6 => ?_)
    · replace h := ifP c6 h
      refine g_iconst hX (pc := 30) (v := (-1)) dX5_alike_30 (by decide) ?_
      exact Kj4 ((-1)) (Option.some.inj h)
    · replace h := ifN c6 h
      refine g_aload_n hX (pc := 21) (i := 0) dX5_alike_21 rfl 0 rfl ?_
      refine g_iload_n hX (pc := 22) (i := 1) dX5_alike_22 rfl 1 rfl ?_
      refine g_iload_n hX (pc := 23) (i := 2) dX5_alike_23 rfl 2 rfl ?_
      obtain ⟨r7, e_r7, h⟩ := bnd h
      refine g_callVi hX (pc := 24) (d := d + 1) hr0 [.int x1, .int x2] (c := 5) (ct_X5_alikeOf (d := d + 1) ho0 e_r7) ho0.1.1 ho0.1.2 (by decide) rfl co_X5_alikeOf ml_X5_244 im_X5_alikeOf sl_X5_alikeOf ini_X5 nm_X5_alikeOf (by decide) ⟨Nat.le_refl _, Nat.le_refl _⟩ (Nat.le_refl _) (Nat.le_of_ble_eq_true rfl) rfl dX5_alike_24 ?_
      refine g_goto hX (pc := 27) (tgt := 31) dX5_alike_27 (by decide) ?_
      exact Kj4 r7 (Option.some.inj h)
noncomputable def b_X5_itemsOf_17 (o0 : Nat) (x1 : Int32) (I : MI) (s2 : Int32) (s : Int32 × Int32) : Option ((Int32 × Int32) ⊕ (Int32 × Int32)) :=
  if s.2 < 10 then
    (if ((x1 >>> (s2 &&& 31)) &&& 1) = 1 then
      (rd 320 (I (o0 + 12)) ((10 * s2) + s.2)).bind fun v12 =>
      if 0 < v12 then
        some ((1 : Int32) <<< (s.2 &&& 31))
      else
        some 0
    else
      some 0).bind fun (p14 : Int32) =>
    some (.inl ((s.1 ||| p14, s.2 + 1)))
  else
    some (.inr ((s.1, s.2)))
noncomputable def b_X5_itemsOf_4 (o0 : Nat) (x1 : Int32) (I : MI) (s : Int32 × Int32) : Option ((Int32 × Int32) ⊕ (Int32 × Int32)) :=
  (rd 2 (I (o0 + 3)) 0).bind fun v4 =>
  if s.2 < v4 then
    (lp (b_X5_itemsOf_17 o0 x1 I s.2) ((s.1, 0))).bind fun p15 =>
    some (.inl ((p15.1, s.2 + 1)))
  else
    some (.inr ((s.1, s.2)))
noncomputable def f_X5_itemsOf (o0 : Nat) (x1 : Int32) (J : MJ) (I : MI) : Option (Int32) :=
  (lp (b_X5_itemsOf_4 o0 x1 I) ((0, 0))).bind fun p16 =>
  some p16.1
theorem nm_X5_itemsOf : yX5_itemsOf.cls ≠ "java/lang/invoke/MethodHandle" ∧ yX5_itemsOf.cls ≠ "java/lang/invoke/VarHandle" ∧ (parseMethodDescriptor yX5_itemsOf.desc).map (fun d => d.parameters.length) = some 1 := by decide +kernel
set_option maxRecDepth 100000 in
set_option maxHeartbeats 4000000 in
theorem ct_X5_itemsOf {E : Ev} {d : Nat} {z : Sh} {J : MJ} {I : MI} {o0 : Nat} {x1 : Int32} {rr : Int32} (ho0 : oX5 z o0) (h : f_X5_itemsOf o0 x1 J I = some rr) : Ct E (d + 0) yX5_itemsOf cX5_itemsOf 5 (some .int) 0 0 [.ref o0, .int x1] z J I (some (.int rr)) z J I := by
  unfold f_X5_itemsOf at h
  refine Ct.of (own := RX5) (ls := [(0, .ref o0), (1, .int x1)]) (by decide) rfl (Nat.le_of_ble_eq_true rfl) rfl ?_
  intro X hr0 hnm hX
  refine g_iconst hX (pc := 0) (v := 0) dX5_itemsOf_0 (by decide) ?_
  refine g_istore_n hX (pc := 1) (i := 2) (ls' := [(0, .ref o0), (1, .int x1), (2, .int 0)]) [1, 2, 0] dX5_itemsOf_1 rfl (by decide) rfl ?_
  refine g_iconst hX (pc := 2) (v := 0) dX5_itemsOf_2 (by decide) ?_
  refine g_istore_n hX (pc := 3) (i := 3) (ls' := [(0, .ref o0), (1, .int x1), (2, .int 0), (3, .int 0)]) [1, 2, 3, 0] dX5_itemsOf_3 rfl (by decide) rfl ?_
  obtain ⟨p16, hpl3, h⟩ := bnd h
  have Kl3 : ∀ ql3 : Int32 × Int32, ql3 = p16 → GW E X (QX E X 0 0 (some (.int rr)) z J I) 5 71 [(0, .ref o0), (1, .int x1), (2, .int ql3.1), (3, .int ql3.2)] [] z J I 0 0 := by
    intro ql3 hql3
    subst hql3
    refine g_iload_n hX (pc := 71) (i := 2) dX5_itemsOf_71 rfl 2 rfl ?_
    obtain rfl := Option.some.inj h
    exact g_ireturn hX (Nat.le_refl _) (Nat.le_refl _) dX5_itemsOf_72
  obtain ⟨kl3, hkl3⟩ := lp_ex hpl3
  clear hpl3 h
  have Ll3 : ∀ k : Nat, ∀ (s1 : Int32) (s2 : Int32), lpN k (b_X5_itemsOf_4 o0 x1 I) ((s1, s2)) = some p16 → GW E X (QX E X 0 0 (some (.int rr)) z J I) 5 4 [(0, .ref o0), (1, .int x1), (2, .int s1), (3, .int s2)] [] z J I 0 0 := by
    intro k
    induction k with
    | zero => intro s1 s2 h; cases h
    | succ k ihl3 =>
      intro s1 s2 h
      obtain ⟨wl3, h, hwl3⟩ := lpN_s h
      unfold b_X5_itemsOf_4 at h
      try dsimp only at h
      refine g_iload_n hX (pc := 4) (i := 3) dX5_itemsOf_4 rfl 3 rfl ?_
      refine g_aload_n hX (pc := 5) (i := 0) dX5_itemsOf_5 rfl 0 rfl ?_
      refine gf5_14 hX (pc := 6) ho0 fl_X5_17 dX5_itemsOf_6 ?_
      refine g_iconst hX (pc := 9) (v := 0) dX5_itemsOf_9 (by decide) ?_
      obtain ⟨v4, e_v4, h⟩ := bnd h
      refine g_ialoadE hX (pc := 10) (s5_14 ho0).1 (s5_14 ho0).2.1 (s5_14 ho0).2.2.1 e_v4 dX5_itemsOf_10 ?_
      refine g_icmp_ge hX (pc := 11) dX5_itemsOf_11 (tgt := 71) (by decide) (fun c5 => ?_) (fun c5 => ?_)
      · replace h := ifP c5 h
        refine g_iconst hX (pc := 14) (v := 0) dX5_itemsOf_14 (by decide) ?_
        refine g_istore hX (pc := 15) (ls' := [(0, .ref o0), (1, .int x1), (2, .int s1), (3, .int s2), (4, .int 0)]) [1, 2, 3, 4, 0] dX5_itemsOf_15 (by decide) rfl ?_
        obtain ⟨p15, hpl8, h⟩ := bnd h
        have Kl8 : ∀ ql8 : Int32 × Int32, ql8 = p15 → GW E X (QX E X 0 0 (some (.int rr)) z J I) 5 65 [(0, .ref o0), (1, .int x1), (2, .int ql8.1), (3, .int s2), (4, .int ql8.2)] [] z J I 0 0 := by
          intro ql8 hql8
          subst hql8
          refine g_iinc hX (pc := 65) (i := 3) (v := s2 + 1) (ls' := [(0, .ref o0), (1, .int x1), (2, .int ql8.1), (3, .int (s2 + 1)), (4, .int ql8.2)]) 3 [1, 2, 3, 0, 4] dX5_itemsOf_65 rfl (by rfl) (by decide) rfl ?_
          refine g_goto hX (pc := 68) (tgt := 4) dX5_itemsOf_68 (by decide) ?_
          refine g_sub (ls' := [(0, .ref o0), (1, .int x1), (2, .int ql8.1), (3, .int (s2 + 1))]) [0, 1, 2, 3] rfl ?_
          obtain rfl := Option.some.inj h
          exact ihl3 ql8.1 (s2 + 1) hwl3
        obtain ⟨kl8, hkl8⟩ := lp_ex hpl8
        clear hpl8 h
        have Ll8 : ∀ k : Nat, ∀ (s6 : Int32) (s7 : Int32), lpN k (b_X5_itemsOf_17 o0 x1 I s2) ((s6, s7)) = some p15 → GW E X (QX E X 0 0 (some (.int rr)) z J I) 5 17 [(0, .ref o0), (1, .int x1), (2, .int s6), (3, .int s2), (4, .int s7)] [] z J I 0 0 := by
          intro k
          induction k with
          | zero => intro s6 s7 h; cases h
          | succ k ihl8 =>
            intro s6 s7 h
            obtain ⟨wl8, h, hwl8⟩ := lpN_s h
            unfold b_X5_itemsOf_17 at h
            try dsimp only at h
            refine g_iload hX (pc := 17) dX5_itemsOf_17 4 rfl ?_
            refine g_bipush hX (pc := 19) (v := 10) dX5_itemsOf_19 (by decide) ?_
            refine g_icmp_ge hX (pc := 21) dX5_itemsOf_21 (tgt := 65) (by decide) (fun c9 => ?_) (fun c9 => ?_)
            · replace h := ifP c9 h
              refine g_iload_n hX (pc := 24) (i := 2) dX5_itemsOf_24 rfl 2 rfl ?_
              refine g_iload_n hX (pc := 25) (i := 1) dX5_itemsOf_25 rfl 1 rfl ?_
              refine g_iload_n hX (pc := 26) (i := 3) dX5_itemsOf_26 rfl 3 rfl ?_
              refine g_ishr hX (pc := 27) dX5_itemsOf_27 ?_
              refine g_iconst hX (pc := 28) (v := 1) dX5_itemsOf_28 (by decide) ?_
              refine g_iand hX (pc := 29) dX5_itemsOf_29 ?_
              refine g_iconst hX (pc := 30) (v := 1) dX5_itemsOf_30 (by decide) ?_
              obtain ⟨p14, hpj11, h⟩ := bnd h
              have Kj11 : ∀ qj11 : Int32, qj11 = p14 → GW E X (QX E X 0 0 (some (.int rr)) z J I) 5 57 [(0, .ref o0), (1, .int x1), (2, .int s6), (3, .int s2), (4, .int s7)] [.int qj11, .int s6] z J I 0 0 := by
                intro qj11 hqj11
                subst hqj11
                refine g_ior hX (pc := 57) dX5_itemsOf_57 ?_
                refine g_istore_n hX (pc := 58) (i := 2) (ls' := [(0, .ref o0), (1, .int x1), (2, .int (s6 ||| qj11)), (3, .int s2), (4, .int s7)]) [1, 2, 0, 3, 4] dX5_itemsOf_58 rfl (by decide) rfl ?_
                refine g_iinc hX (pc := 59) (i := 4) (v := s7 + 1) (ls' := [(0, .ref o0), (1, .int x1), (2, .int (s6 ||| qj11)), (3, .int s2), (4, .int (s7 + 1))]) 4 [1, 2, 3, 4, 0] dX5_itemsOf_59 rfl (by rfl) (by decide) rfl ?_
                refine g_goto hX (pc := 62) (tgt := 17) dX5_itemsOf_62 (by decide) ?_
                obtain rfl := Option.some.inj h
                exact ihl8 (s6 ||| qj11) (s7 + 1) hwl8
              replace h := hpj11
              clear hpj11
              refine g_icmp_ne hX (pc := 31) dX5_itemsOf_31 (tgt := 56) (by decide) (fun c10 => ?_) (fun c10 => ?_)
              · replace h := ifP c10 h
                refine g_aload_n hX (pc := 34) (i := 0) dX5_itemsOf_34 rfl 0 rfl ?_
                refine gf5_23 hX (pc := 35) ho0 fl_X5_45 dX5_itemsOf_35 ?_
                refine g_bipush hX (pc := 38) (v := 10) dX5_itemsOf_38 (by decide) ?_
                refine g_iload_n hX (pc := 40) (i := 3) dX5_itemsOf_40 rfl 3 rfl ?_
                refine g_imul hX (pc := 41) dX5_itemsOf_41 ?_
                refine g_iload hX (pc := 42) dX5_itemsOf_42 4 rfl ?_
                refine g_iadd hX (pc := 44) dX5_itemsOf_44 ?_
                obtain ⟨v12, e_v12, h⟩ := bnd h
                refine g_ialoadE hX (pc := 45) (s5_23 ho0).1 (s5_23 ho0).2.1 (s5_23 ho0).2.2.1 e_v12 dX5_itemsOf_45 ?_
                refine g_if_le hX (pc := 46) dX5_itemsOf_46 (tgt := 56) (by decide) (fun c13 => ?_) (fun c13 => ?_)
                · replace h := ifP c13 h
                  refine g_iconst hX (pc := 49) (v := 1) dX5_itemsOf_49 (by decide) ?_
                  refine g_iload hX (pc := 50) dX5_itemsOf_50 4 rfl ?_
                  refine g_ishl hX (pc := 52) dX5_itemsOf_52 ?_
                  refine g_goto hX (pc := 53) (tgt := 57) dX5_itemsOf_53 (by decide) ?_
                  exact Kj11 ((1 : Int32) <<< (s7 &&& 31)) (Option.some.inj h)
                · replace h := ifN c13 h
                  refine g_iconst hX (pc := 56) (v := 0) dX5_itemsOf_56 (by decide) ?_
                  exact Kj11 0 (Option.some.inj h)
              · replace h := ifN c10 h
                refine g_iconst hX (pc := 56) (v := 0) dX5_itemsOf_56 (by decide) ?_
                exact Kj11 0 (Option.some.inj h)
            · replace h := ifN c9 h
              obtain rfl := Option.some.inj h
              exact Kl8 ((s6, s7)) hwl8
        exact Ll8 kl8 s1 0 hkl8
      · replace h := ifN c5 h
        obtain rfl := Option.some.inj h
        exact Kl3 ((s1, s2)) hwl3
  exact Ll3 kl3 0 0 hkl3
noncomputable def b_X5_count1_4  (s : Int32 × Int32) : Option ((Int32 × Int32) ⊕ (Int32 × Int32)) :=
  if s.2 = 0 then
    some (.inr ((s.1, s.2)))
  else
    some (.inl ((s.1 + 1, s.2 &&& (s.2 - 1))))
noncomputable def f_X5_count1 (x0 : Int32)  : Option (Int32) :=
  (lp (b_X5_count1_4) ((0, x0))).bind fun p5 =>
  some p5.1
theorem nm_X5_count1 : yX5_count1.cls ≠ "java/lang/invoke/MethodHandle" ∧ yX5_count1.cls ≠ "java/lang/invoke/VarHandle" ∧ (parseMethodDescriptor yX5_count1.desc).map (fun d => d.parameters.length) = some 1 := by decide +kernel
set_option maxRecDepth 100000 in
set_option maxHeartbeats 4000000 in
theorem ct_X5_count1 {E : Ev} {d : Nat} {z : Sh} {J : MJ} {I : MI} {x0 : Int32} {rr : Int32}  (h : f_X5_count1 x0 = some rr) : Ct E (d + 0) yX5_count1 cX5_count1 3 (some .int) 0 0 [.int x0] z J I (some (.int rr)) z J I := by
  unfold f_X5_count1 at h
  refine Ct.of (own := RX5) (ls := [(0, .int x0)]) (by decide) rfl (Nat.le_of_ble_eq_true rfl) rfl ?_
  intro X hr0 hnm hX
  refine g_iconst hX (pc := 0) (v := 0) dX5_count1_0 (by decide) ?_
  refine g_istore_n hX (pc := 1) (i := 1) (ls' := [(0, .int x0), (1, .int 0)]) [1, 0] dX5_count1_1 rfl (by decide) rfl ?_
  refine g_iload_n hX (pc := 2) (i := 0) dX5_count1_2 rfl 0 rfl ?_
  refine g_istore_n hX (pc := 3) (i := 2) (ls' := [(0, .int x0), (1, .int 0), (2, .int x0)]) [1, 2, 0] dX5_count1_3 rfl (by decide) rfl ?_
  obtain ⟨p5, hpl3, h⟩ := bnd h
  have Kl3 : ∀ ql3 : Int32 × Int32, ql3 = p5 → GW E X (QX E X 0 0 (some (.int rr)) z J I) 3 20 [(0, .int x0), (1, .int ql3.1), (2, .int ql3.2)] [] z J I 0 0 := by
    intro ql3 hql3
    subst hql3
    refine g_iload_n hX (pc := 20) (i := 1) dX5_count1_20 rfl 1 rfl ?_
    obtain rfl := Option.some.inj h
    exact g_ireturn hX (Nat.le_refl _) (Nat.le_refl _) dX5_count1_21
  obtain ⟨kl3, hkl3⟩ := lp_ex hpl3
  clear hpl3 h
  have Ll3 : ∀ k : Nat, ∀ (s1 : Int32) (s2 : Int32), lpN k (b_X5_count1_4) ((s1, s2)) = some p5 → GW E X (QX E X 0 0 (some (.int rr)) z J I) 3 4 [(0, .int x0), (1, .int s1), (2, .int s2)] [] z J I 0 0 := by
    intro k
    induction k with
    | zero => intro s1 s2 h; cases h
    | succ k ihl3 =>
      intro s1 s2 h
      obtain ⟨wl3, h, hwl3⟩ := lpN_s h
      unfold b_X5_count1_4 at h
      try dsimp only at h
      refine g_iload_n hX (pc := 4) (i := 2) dX5_count1_4 rfl 2 rfl ?_
      refine g_if_eq hX (pc := 5) dX5_count1_5 (tgt := 20) (by decide) (fun c4 => ?_) (fun c4 => ?_)
      · replace h := ifP c4 h
        obtain rfl := Option.some.inj h
        exact Kl3 ((s1, s2)) hwl3
      · replace h := ifN c4 h
        refine g_iinc hX (pc := 8) (i := 1) (v := s1 + 1) (ls' := [(0, .int x0), (1, .int (s1 + 1)), (2, .int s2)]) 1 [1, 0, 2] dX5_count1_8 rfl (by rfl) (by decide) rfl ?_
        refine g_iload_n hX (pc := 11) (i := 2) dX5_count1_11 rfl 2 rfl ?_
        refine g_iload_n hX (pc := 12) (i := 2) dX5_count1_12 rfl 2 rfl ?_
        refine g_iconst hX (pc := 13) (v := 1) dX5_count1_13 (by decide) ?_
        refine g_isub hX (pc := 14) dX5_count1_14 ?_
        refine g_iand hX (pc := 15) dX5_count1_15 ?_
        refine g_istore_n hX (pc := 16) (i := 2) (ls' := [(0, .int x0), (1, .int (s1 + 1)), (2, .int (s2 &&& (s2 - 1)))]) [1, 2, 0] dX5_count1_16 rfl (by decide) rfl ?_
        refine g_goto hX (pc := 17) (tgt := 4) dX5_count1_17 (by decide) ?_
        obtain rfl := Option.some.inj h
        exact ihl3 (s1 + 1) (s2 &&& (s2 - 1)) hwl3
  exact Ll3 kl3 0 x0 hkl3
noncomputable def b_X5_waiting_4 (o0 : Nat) (I : MI) (s : Int32 × Int32) : Option ((Int32 × Int32) ⊕ (Int32 × Int32)) :=
  (rd 2 (I (o0 + 3)) 0).bind fun v4 =>
  if s.2 < v4 then
    (rd 2117 (I (o0 + 13)) (330 + s.2)).bind fun v6 =>
    (if v6 = 0 then
      some ((1 : Int32) <<< (s.2 &&& 31))
    else
      some 0).bind fun (p9 : Int32) =>
    some (.inl ((s.1 ||| p9, s.2 + 1)))
  else
    some (.inr ((s.1, s.2)))
noncomputable def f_X5_waiting (o0 : Nat) (J : MJ) (I : MI) : Option (Int32) :=
  (lp (b_X5_waiting_4 o0 I) ((0, 0))).bind fun p10 =>
  some p10.1
theorem nm_X5_waiting : yX5_waiting.cls ≠ "java/lang/invoke/MethodHandle" ∧ yX5_waiting.cls ≠ "java/lang/invoke/VarHandle" ∧ (parseMethodDescriptor yX5_waiting.desc).map (fun d => d.parameters.length) = some 0 := by decide +kernel
set_option maxRecDepth 100000 in
set_option maxHeartbeats 4000000 in
theorem ct_X5_waiting {E : Ev} {d : Nat} {z : Sh} {J : MJ} {I : MI} {o0 : Nat} {rr : Int32} (ho0 : oX5 z o0) (h : f_X5_waiting o0 J I = some rr) : Ct E (d + 0) yX5_waiting cX5_waiting 3 (some .int) 0 0 [.ref o0] z J I (some (.int rr)) z J I := by
  unfold f_X5_waiting at h
  refine Ct.of (own := RX5) (ls := [(0, .ref o0)]) (by decide) rfl (Nat.le_of_ble_eq_true rfl) rfl ?_
  intro X hr0 hnm hX
  refine g_iconst hX (pc := 0) (v := 0) dX5_waiting_0 (by decide) ?_
  refine g_istore_n hX (pc := 1) (i := 1) (ls' := [(0, .ref o0), (1, .int 0)]) [1, 0] dX5_waiting_1 rfl (by decide) rfl ?_
  refine g_iconst hX (pc := 2) (v := 0) dX5_waiting_2 (by decide) ?_
  refine g_istore_n hX (pc := 3) (i := 2) (ls' := [(0, .ref o0), (1, .int 0), (2, .int 0)]) [1, 2, 0] dX5_waiting_3 rfl (by decide) rfl ?_
  obtain ⟨p10, hpl3, h⟩ := bnd h
  have Kl3 : ∀ ql3 : Int32 × Int32, ql3 = p10 → GW E X (QX E X 0 0 (some (.int rr)) z J I) 3 43 [(0, .ref o0), (1, .int ql3.1), (2, .int ql3.2)] [] z J I 0 0 := by
    intro ql3 hql3
    subst hql3
    refine g_iload_n hX (pc := 43) (i := 1) dX5_waiting_43 rfl 1 rfl ?_
    obtain rfl := Option.some.inj h
    exact g_ireturn hX (Nat.le_refl _) (Nat.le_refl _) dX5_waiting_44
  obtain ⟨kl3, hkl3⟩ := lp_ex hpl3
  clear hpl3 h
  have Ll3 : ∀ k : Nat, ∀ (s1 : Int32) (s2 : Int32), lpN k (b_X5_waiting_4 o0 I) ((s1, s2)) = some p10 → GW E X (QX E X 0 0 (some (.int rr)) z J I) 3 4 [(0, .ref o0), (1, .int s1), (2, .int s2)] [] z J I 0 0 := by
    intro k
    induction k with
    | zero => intro s1 s2 h; cases h
    | succ k ihl3 =>
      intro s1 s2 h
      obtain ⟨wl3, h, hwl3⟩ := lpN_s h
      unfold b_X5_waiting_4 at h
      try dsimp only at h
      refine g_iload_n hX (pc := 4) (i := 2) dX5_waiting_4 rfl 2 rfl ?_
      refine g_aload_n hX (pc := 5) (i := 0) dX5_waiting_5 rfl 0 rfl ?_
      refine gf5_14 hX (pc := 6) ho0 fl_X5_17 dX5_waiting_6 ?_
      refine g_iconst hX (pc := 9) (v := 0) dX5_waiting_9 (by decide) ?_
      obtain ⟨v4, e_v4, h⟩ := bnd h
      refine g_ialoadE hX (pc := 10) (s5_14 ho0).1 (s5_14 ho0).2.1 (s5_14 ho0).2.2.1 e_v4 dX5_waiting_10 ?_
      refine g_icmp_ge hX (pc := 11) dX5_waiting_11 (tgt := 43) (by decide) (fun c5 => ?_) (fun c5 => ?_)
      · replace h := ifP c5 h
        refine g_iload_n hX (pc := 14) (i := 1) dX5_waiting_14 rfl 1 rfl ?_
        refine g_aload_n hX (pc := 15) (i := 0) dX5_waiting_15 rfl 0 rfl ?_
        refine gf5_27 hX (pc := 16) ho0 fl_X5_48 dX5_waiting_16 ?_
        refine g_sipush hX (pc := 19) (v := 330) dX5_waiting_19 (by decide) ?_
        refine g_iload_n hX (pc := 22) (i := 2) dX5_waiting_22 rfl 2 rfl ?_
        refine g_iadd hX (pc := 23) dX5_waiting_23 ?_
        obtain ⟨v6, e_v6, h⟩ := bnd h
        refine g_ialoadE hX (pc := 24) (s5_27 ho0).1 (s5_27 ho0).2.1 (s5_27 ho0).2.2.1 e_v6 dX5_waiting_24 ?_
        obtain ⟨p9, hpj8, h⟩ := bnd h
        have Kj8 : ∀ qj8 : Int32, qj8 = p9 → GW E X (QX E X 0 0 (some (.int rr)) z J I) 3 35 [(0, .ref o0), (1, .int s1), (2, .int s2)] [.int qj8, .int s1] z J I 0 0 := by
          intro qj8 hqj8
          subst hqj8
          refine g_ior hX (pc := 35) dX5_waiting_35 ?_
          refine g_istore_n hX (pc := 36) (i := 1) (ls' := [(0, .ref o0), (1, .int (s1 ||| qj8)), (2, .int s2)]) [1, 0, 2] dX5_waiting_36 rfl (by decide) rfl ?_
          refine g_iinc hX (pc := 37) (i := 2) (v := s2 + 1) (ls' := [(0, .ref o0), (1, .int (s1 ||| qj8)), (2, .int (s2 + 1))]) 2 [1, 2, 0] dX5_waiting_37 rfl (by rfl) (by decide) rfl ?_
          refine g_goto hX (pc := 40) (tgt := 4) dX5_waiting_40 (by decide) ?_
          obtain rfl := Option.some.inj h
          exact ihl3 (s1 ||| qj8) (s2 + 1) hwl3
        replace h := hpj8
        clear hpj8
        refine g_if_ne hX (pc := 25) dX5_waiting_25 (tgt := 34) (by decide) (fun c7 => ?_) (fun c7 => ?_)
        · replace h := ifP c7 h
          refine g_iconst hX (pc := 28) (v := 1) dX5_waiting_28 (by decide) ?_
          refine g_iload_n hX (pc := 29) (i := 2) dX5_waiting_29 rfl 2 rfl ?_
          refine g_ishl hX (pc := 30) dX5_waiting_30 ?_
          refine g_goto hX (pc := 31) (tgt := 35) dX5_waiting_31 (by decide) ?_
          exact Kj8 ((1 : Int32) <<< (s2 &&& 31)) (Option.some.inj h)
        · replace h := ifN c7 h
          refine g_iconst hX (pc := 34) (v := 0) dX5_waiting_34 (by decide) ?_
          exact Kj8 0 (Option.some.inj h)
      · replace h := ifN c5 h
        obtain rfl := Option.some.inj h
        exact Kl3 ((s1, s2)) hwl3
  exact Ll3 kl3 0 0 hkl3
noncomputable def b_X5_firstOf_4 (o0 : Nat) (x1 : Int32) (J : MJ) (I : MI) (s : Int32 × Int32) : Option ((Int32 × Int32) ⊕ (Int32 × Int32)) :=
  (rd 2 (I (o0 + 3)) 0).bind fun v4 =>
  if s.2 < v4 then
    (if ((x1 >>> (s.2 &&& 31)) &&& 1) = 1 then
      if s.1 < 0 then
        some s.2
      else
        (f_X5_isEarlier o0 s.2 s.1 J I).bind fun r9 =>
        if r9 = 0 then
          some s.1
        else
          some s.2
    else
      some s.1).bind fun (p11 : Int32) =>
    some (.inl ((p11, s.2 + 1)))
  else
    some (.inr ((s.1, s.2)))
noncomputable def f_X5_firstOf (o0 : Nat) (x1 : Int32) (J : MJ) (I : MI) : Option (Int32) :=
  (lp (b_X5_firstOf_4 o0 x1 J I) (((-1), 0))).bind fun p12 =>
  some p12.1
theorem nm_X5_firstOf : yX5_firstOf.cls ≠ "java/lang/invoke/MethodHandle" ∧ yX5_firstOf.cls ≠ "java/lang/invoke/VarHandle" ∧ (parseMethodDescriptor yX5_firstOf.desc).map (fun d => d.parameters.length) = some 1 := by decide +kernel
set_option maxRecDepth 100000 in
set_option maxHeartbeats 4000000 in
theorem ct_X5_firstOf {E : Ev} {d : Nat} {z : Sh} {J : MJ} {I : MI} {o0 : Nat} {x1 : Int32} {rr : Int32} (ho0 : oX5 z o0) (h : f_X5_firstOf o0 x1 J I = some rr) : Ct E (d + 1) yX5_firstOf cX5_firstOf 4 (some .int) 0 0 [.ref o0, .int x1] z J I (some (.int rr)) z J I := by
  unfold f_X5_firstOf at h
  refine Ct.of (own := RX5) (ls := [(0, .ref o0), (1, .int x1)]) (by decide) rfl (Nat.le_of_ble_eq_true rfl) rfl ?_
  intro X hr0 hnm hX
  refine g_iconst hX (pc := 0) (v := (-1)) dX5_firstOf_0 (by decide) ?_
  refine g_istore_n hX (pc := 1) (i := 2) (ls' := [(0, .ref o0), (1, .int x1), (2, .int ((-1)))]) [1, 2, 0] dX5_firstOf_1 rfl (by decide) rfl ?_
  refine g_iconst hX (pc := 2) (v := 0) dX5_firstOf_2 (by decide) ?_
  refine g_istore_n hX (pc := 3) (i := 3) (ls' := [(0, .ref o0), (1, .int x1), (2, .int ((-1))), (3, .int 0)]) [1, 2, 3, 0] dX5_firstOf_3 rfl (by decide) rfl ?_
  obtain ⟨p12, hpl3, h⟩ := bnd h
  have Kl3 : ∀ ql3 : Int32 × Int32, ql3 = p12 → GW E X (QX E X 0 0 (some (.int rr)) z J I) 4 44 [(0, .ref o0), (1, .int x1), (2, .int ql3.1), (3, .int ql3.2)] [] z J I 0 0 := by
    intro ql3 hql3
    subst hql3
    refine g_iload_n hX (pc := 44) (i := 2) dX5_firstOf_44 rfl 2 rfl ?_
    obtain rfl := Option.some.inj h
    exact g_ireturn hX (Nat.le_refl _) (Nat.le_refl _) dX5_firstOf_45
  obtain ⟨kl3, hkl3⟩ := lp_ex hpl3
  clear hpl3 h
  have Ll3 : ∀ k : Nat, ∀ (s1 : Int32) (s2 : Int32), lpN k (b_X5_firstOf_4 o0 x1 J I) ((s1, s2)) = some p12 → GW E X (QX E X 0 0 (some (.int rr)) z J I) 4 4 [(0, .ref o0), (1, .int x1), (2, .int s1), (3, .int s2)] [] z J I 0 0 := by
    intro k
    induction k with
    | zero => intro s1 s2 h; cases h
    | succ k ihl3 =>
      intro s1 s2 h
      obtain ⟨wl3, h, hwl3⟩ := lpN_s h
      unfold b_X5_firstOf_4 at h
      try dsimp only at h
      refine g_iload_n hX (pc := 4) (i := 3) dX5_firstOf_4 rfl 3 rfl ?_
      refine g_aload_n hX (pc := 5) (i := 0) dX5_firstOf_5 rfl 0 rfl ?_
      refine gf5_14 hX (pc := 6) ho0 fl_X5_17 dX5_firstOf_6 ?_
      refine g_iconst hX (pc := 9) (v := 0) dX5_firstOf_9 (by decide) ?_
      obtain ⟨v4, e_v4, h⟩ := bnd h
      refine g_ialoadE hX (pc := 10) (s5_14 ho0).1 (s5_14 ho0).2.1 (s5_14 ho0).2.2.1 e_v4 dX5_firstOf_10 ?_
      refine g_icmp_ge hX (pc := 11) dX5_firstOf_11 (tgt := 44) (by decide) (fun c5 => ?_) (fun c5 => ?_)
      · replace h := ifP c5 h
        refine g_iload_n hX (pc := 14) (i := 1) dX5_firstOf_14 rfl 1 rfl ?_
        refine g_iload_n hX (pc := 15) (i := 3) dX5_firstOf_15 rfl 3 rfl ?_
        refine g_ishr hX (pc := 16) dX5_firstOf_16 ?_
        refine g_iconst hX (pc := 17) (v := 1) dX5_firstOf_17 (by decide) ?_
        refine g_iand hX (pc := 18) dX5_firstOf_18 ?_
        refine g_iconst hX (pc := 19) (v := 1) dX5_firstOf_19 (by decide) ?_
        obtain ⟨p11, hpj7, h⟩ := bnd h
        have Kj7 : ∀ qj7 : Int32, qj7 = p11 → GW E X (QX E X 0 0 (some (.int rr)) z J I) 4 38 [(0, .ref o0), (1, .int x1), (2, .int qj7), (3, .int s2)] [] z J I 0 0 := by
          intro qj7 hqj7
          subst hqj7
          refine g_iinc hX (pc := 38) (i := 3) (v := s2 + 1) (ls' := [(0, .ref o0), (1, .int x1), (2, .int qj7), (3, .int (s2 + 1))]) 3 [1, 2, 3, 0] dX5_firstOf_38 rfl (by rfl) (by decide) rfl ?_
          refine g_goto hX (pc := 41) (tgt := 4) dX5_firstOf_41 (by decide) ?_
          obtain rfl := Option.some.inj h
          exact ihl3 qj7 (s2 + 1) hwl3
        replace h := hpj7
        clear hpj7
        refine g_icmp_ne hX (pc := 20) dX5_firstOf_20 (tgt := 38) (by decide) (fun c6 => ?_) (fun c6 => ?_)
        · replace h := ifP c6 h
          refine g_iload_n hX (pc := 23) (i := 2) dX5_firstOf_23 rfl 2 rfl ?_
          refine g_if_lt hX (pc := 24) dX5_firstOf_24 (tgt := 36) (by decide) (fun c8 => ?_) (fun c8 => ?_)
          · replace h := ifP c8 h
            refine g_iload_n hX (pc := 36) (i := 3) dX5_firstOf_36 rfl 3 rfl ?_
            refine g_istore_n hX (pc := 37) (i := 2) (ls' := [(0, .ref o0), (1, .int x1), (2, .int s2), (3, .int s2)]) [1, 2, 0, 3] dX5_firstOf_37 rfl (by decide) rfl ?_
            exact Kj7 s2 (Option.some.inj h)
          · replace h := ifN c8 h
            refine g_aload_n hX (pc := 27) (i := 0) dX5_firstOf_27 rfl 0 rfl ?_
            refine g_iload_n hX (pc := 28) (i := 3) dX5_firstOf_28 rfl 3 rfl ?_
            refine g_iload_n hX (pc := 29) (i := 2) dX5_firstOf_29 rfl 2 rfl ?_
            obtain ⟨r9, e_r9, h⟩ := bnd h
            refine g_callVi hX (pc := 30) (d := d + 0) hr0 [.int s2, .int s1] (c := 5) (ct_X5_isEarlier (d := d + 0) ho0 e_r9) ho0.1.1 ho0.1.2 (by decide) rfl co_X5_isEarlier ml_X5_247 im_X5_isEarlier sl_X5_isEarlier ini_X5 nm_X5_isEarlier (by decide) ⟨Nat.le_refl _, Nat.le_refl _⟩ (Nat.le_refl _) (Nat.le_of_ble_eq_true rfl) rfl dX5_firstOf_30 ?_
            refine g_if_eq hX (pc := 33) dX5_firstOf_33 (tgt := 38) (by decide) (fun c10 => ?_) (fun c10 => ?_)
            · replace h := ifP c10 h
              exact Kj7 s1 (Option.some.inj h)
            · replace h := ifN c10 h
              refine g_iload_n hX (pc := 36) (i := 3) dX5_firstOf_36 rfl 3 rfl ?_
              refine g_istore_n hX (pc := 37) (i := 2) (ls' := [(0, .ref o0), (1, .int x1), (2, .int s2), (3, .int s2)]) [1, 2, 0, 3] dX5_firstOf_37 rfl (by decide) rfl ?_
              exact Kj7 s2 (Option.some.inj h)
        · replace h := ifN c6 h
          exact Kj7 s1 (Option.some.inj h)
      · replace h := ifN c5 h
        obtain rfl := Option.some.inj h
        exact Kl3 ((s1, s2)) hwl3
  exact Ll3 kl3 ((-1)) 0 hkl3
noncomputable def b_X5_nextTo_19 (o0 : Nat) (x1 : Int32) (x2 : Int32) (x3 : Int32) (J : MJ) (I : MI) (r1 : Int32) (s : Int32 × Int32 × Int32 × Int32) : Option ((Int32 × Int32 × Int32 × Int32) ⊕ (Int32 × Int32 × Int32 × Int32)) :=
  (rd 2 (I (o0 + 3)) 0).bind fun v7 =>
  if s.2.2.2 < v7 then
    (if ((x2 >>> (s.2.2.2 &&& 31)) &&& 1) = 0 then
      some ((s.1, s.2.1, s.2.2.1))
    else
      if ((x1 >>> (s.2.2.2 &&& 31)) &&& 1) = 1 then
        some ((s.1, s.2.1, s.2.2.1))
      else
        (f_X5_needOf o0 s.2.2.2 J I).bind fun r12 =>
        (rd 2 (I (o0 + 6)) 0).bind fun v13 =>
        if v13 < (x3 + r12) then
          some ((s.1, s.2.1, s.2.2.1))
        else
          (f_X5_itemsOf o0 ((1 : Int32) <<< (s.2.2.2 &&& 31)) J I).bind fun r15 =>
          (f_X5_count1 (r15 &&& r1)).bind fun r16 =>
          (f_X5_count1 (r15 &&& (r1 ^^^ ((-1))))).bind fun r17 =>
          (if s.1 < 0 then
            some 1
          else
            if s.2.1 < r16 then
              some 1
            else
              if r16 = s.2.1 then
                if r17 < s.2.2.1 then
                  some 1
                else
                  if r17 = s.2.2.1 then
                    (f_X5_isEarlier o0 s.2.2.2 s.1 J I).bind fun r24 =>
                    if r24 = 0 then
                      some 0
                    else
                      some 1
                  else
                    some 0
              else
                some 0).bind fun (p26 : Int32) =>
          if p26 = 0 then
            some ((s.1, s.2.1, s.2.2.1))
          else
            some ((s.2.2.2, r16, r17))).bind fun (p28 : Int32 × Int32 × Int32) =>
    some (.inl ((p28.1, p28.2.1, p28.2.2, s.2.2.2 + 1)))
  else
    some (.inr ((s.1, s.2.1, s.2.2.1, s.2.2.2)))
noncomputable def f_X5_nextTo (o0 : Nat) (x1 : Int32) (x2 : Int32) (x3 : Int32) (J : MJ) (I : MI) : Option (Int32) :=
  (f_X5_itemsOf o0 x1 J I).bind fun r1 =>
  (lp (b_X5_nextTo_19 o0 x1 x2 x3 J I r1) (((-1), 0, 0, 0))).bind fun p29 =>
  some p29.1
theorem nm_X5_nextTo : yX5_nextTo.cls ≠ "java/lang/invoke/MethodHandle" ∧ yX5_nextTo.cls ≠ "java/lang/invoke/VarHandle" ∧ (parseMethodDescriptor yX5_nextTo.desc).map (fun d => d.parameters.length) = some 3 := by decide +kernel
set_option maxRecDepth 100000 in
set_option maxHeartbeats 4000000 in
theorem ct_X5_nextTo {E : Ev} {d : Nat} {z : Sh} {J : MJ} {I : MI} {o0 : Nat} {x1 : Int32} {x2 : Int32} {x3 : Int32} {rr : Int32} (ho0 : oX5 z o0) (h : f_X5_nextTo o0 x1 x2 x3 J I = some rr) : Ct E (d + 1) yX5_nextTo cX5_nextTo 13 (some .int) 0 0 [.ref o0, .int x1, .int x2, .int x3] z J I (some (.int rr)) z J I := by
  unfold f_X5_nextTo at h
  refine Ct.of (own := RX5) (ls := [(0, .ref o0), (1, .int x1), (2, .int x2), (3, .int x3)]) (by decide) rfl (Nat.le_of_ble_eq_true rfl) rfl ?_
  intro X hr0 hnm hX
  refine g_aload_n hX (pc := 0) (i := 0) dX5_nextTo_0 rfl 0 rfl ?_
  refine g_iload_n hX (pc := 1) (i := 1) dX5_nextTo_1 rfl 1 rfl ?_
  obtain ⟨r1, e_r1, h⟩ := bnd h
  refine g_callVi hX (pc := 2) (d := d + 0) hr0 [.int x1] (c := 5) (ct_X5_itemsOf (d := d + 0) ho0 e_r1) ho0.1.1 ho0.1.2 (by decide) rfl co_X5_itemsOf ml_X5_250 im_X5_itemsOf sl_X5_itemsOf ini_X5 nm_X5_itemsOf (by decide) ⟨Nat.le_refl _, Nat.le_refl _⟩ (Nat.le_refl _) (Nat.le_of_ble_eq_true rfl) rfl dX5_nextTo_2 ?_
  refine g_istore hX (pc := 5) (ls' := [(0, .ref o0), (1, .int x1), (2, .int x2), (3, .int x3), (4, .int r1)]) [1, 2, 3, 4, 0] dX5_nextTo_5 (by decide) rfl ?_
  refine g_iconst hX (pc := 7) (v := (-1)) dX5_nextTo_7 (by decide) ?_
  refine g_istore hX (pc := 8) (ls' := [(0, .ref o0), (1, .int x1), (2, .int x2), (3, .int x3), (4, .int r1), (5, .int ((-1)))]) [1, 2, 3, 4, 5, 0] dX5_nextTo_8 (by decide) rfl ?_
  refine g_iconst hX (pc := 10) (v := 0) dX5_nextTo_10 (by decide) ?_
  refine g_istore hX (pc := 11) (ls' := [(0, .ref o0), (1, .int x1), (2, .int x2), (3, .int x3), (4, .int r1), (5, .int ((-1))), (6, .int 0)]) [1, 2, 3, 4, 5, 6, 0] dX5_nextTo_11 (by decide) rfl ?_
  refine g_iconst hX (pc := 13) (v := 0) dX5_nextTo_13 (by decide) ?_
  refine g_istore hX (pc := 14) (ls' := [(0, .ref o0), (1, .int x1), (2, .int x2), (3, .int x3), (4, .int r1), (5, .int ((-1))), (6, .int 0), (7, .int 0)]) [1, 2, 3, 4, 5, 6, 7, 0] dX5_nextTo_14 (by decide) rfl ?_
  refine g_iconst hX (pc := 16) (v := 0) dX5_nextTo_16 (by decide) ?_
  refine g_istore hX (pc := 17) (ls' := [(0, .ref o0), (1, .int x1), (2, .int x2), (3, .int x3), (4, .int r1), (5, .int ((-1))), (6, .int 0), (7, .int 0), (8, .int 0)]) [1, 2, 3, 4, 5, 6, 7, 8, 0] dX5_nextTo_17 (by decide) rfl ?_
  obtain ⟨p29, hpl6, h⟩ := bnd h
  have Kl6 : ∀ ql6 : Int32 × Int32 × Int32 × Int32, ql6 = p29 → GW E X (QX E X 0 0 (some (.int rr)) z J I) 13 178 [(0, .ref o0), (1, .int x1), (2, .int x2), (3, .int x3), (4, .int r1), (5, .int ql6.1), (6, .int ql6.2.1), (7, .int ql6.2.2.1), (8, .int ql6.2.2.2)] [] z J I 0 0 := by
    intro ql6 hql6
    subst hql6
    refine g_iload hX (pc := 178) dX5_nextTo_178 5 rfl ?_
    obtain rfl := Option.some.inj h
    exact g_ireturn hX (Nat.le_refl _) (Nat.le_refl _) dX5_nextTo_180
  obtain ⟨kl6, hkl6⟩ := lp_ex hpl6
  clear hpl6 h
  have Ll6 : ∀ k : Nat, ∀ (s2 : Int32) (s3 : Int32) (s4 : Int32) (s5 : Int32), lpN k (b_X5_nextTo_19 o0 x1 x2 x3 J I r1) ((s2, s3, s4, s5)) = some p29 → GW E X (QX E X 0 0 (some (.int rr)) z J I) 13 19 [(0, .ref o0), (1, .int x1), (2, .int x2), (3, .int x3), (4, .int r1), (5, .int s2), (6, .int s3), (7, .int s4), (8, .int s5)] [] z J I 0 0 := by
    intro k
    induction k with
    | zero => intro s2 s3 s4 s5 h; cases h
    | succ k ihl6 =>
      intro s2 s3 s4 s5 h
      obtain ⟨wl6, h, hwl6⟩ := lpN_s h
      unfold b_X5_nextTo_19 at h
      try dsimp only at h
      refine g_iload hX (pc := 19) dX5_nextTo_19 8 rfl ?_
      refine g_aload_n hX (pc := 21) (i := 0) dX5_nextTo_21 rfl 0 rfl ?_
      refine gf5_14 hX (pc := 22) ho0 fl_X5_17 dX5_nextTo_22 ?_
      refine g_iconst hX (pc := 25) (v := 0) dX5_nextTo_25 (by decide) ?_
      obtain ⟨v7, e_v7, h⟩ := bnd h
      refine g_ialoadE hX (pc := 26) (s5_14 ho0).1 (s5_14 ho0).2.1 (s5_14 ho0).2.2.1 e_v7 dX5_nextTo_26 ?_
      refine g_icmp_ge hX (pc := 27) dX5_nextTo_27 (tgt := 178) (by decide) (fun c8 => ?_) (fun c8 => ?_)
      · replace h := ifP c8 h
        refine g_iload_n hX (pc := 30) (i := 2) dX5_nextTo_30 rfl 2 rfl ?_
        refine g_iload hX (pc := 31) dX5_nextTo_31 8 rfl ?_
        refine g_ishr hX (pc := 33) dX5_nextTo_33 ?_
        refine g_iconst hX (pc := 34) (v := 1) dX5_nextTo_34 (by decide) ?_
        refine g_iand hX (pc := 35) dX5_nextTo_35 ?_
        obtain ⟨p28, hpj10, h⟩ := bnd h
        have Kj10 : ∀ qj10 : Int32 × Int32 × Int32, qj10 = p28 → GW E X (QX E X 0 0 (some (.int rr)) z J I) 13 172 [(0, .ref o0), (1, .int x1), (2, .int x2), (3, .int x3), (4, .int r1), (5, .int qj10.1), (6, .int qj10.2.1), (7, .int qj10.2.2), (8, .int s5)] [] z J I 0 0 := by
          intro qj10 hqj10
          subst hqj10
          refine g_iinc hX (pc := 172) (i := 8) (v := s5 + 1) (ls' := [(0, .ref o0), (1, .int x1), (2, .int x2), (3, .int x3), (4, .int r1), (5, .int qj10.1), (6, .int qj10.2.1), (7, .int qj10.2.2), (8, .int (s5 + 1))]) 8 [1, 2, 3, 4, 5, 6, 7, 8, 0] dX5_nextTo_172 rfl (by rfl) (by decide) rfl ?_
          refine g_goto hX (pc := 175) (tgt := 19) dX5_nextTo_175 (by decide) ?_
          obtain rfl := Option.some.inj h
          exact ihl6 qj10.1 qj10.2.1 qj10.2.2 (s5 + 1) hwl6
        replace h := hpj10
        clear hpj10
        refine g_if_eq hX (pc := 36) dX5_nextTo_36 (tgt := 172) (by decide) (fun c9 => ?_) (fun c9 => ?_)
        · replace h := ifP c9 h
          exact Kj10 ((s2, s3, s4)) (Option.some.inj h)
        · replace h := ifN c9 h
          refine g_iload_n hX (pc := 39) (i := 1) dX5_nextTo_39 rfl 1 rfl ?_
          refine g_iload hX (pc := 40) dX5_nextTo_40 8 rfl ?_
          refine g_ishr hX (pc := 42) dX5_nextTo_42 ?_
          refine g_iconst hX (pc := 43) (v := 1) dX5_nextTo_43 (by decide) ?_
          refine g_iand hX (pc := 44) dX5_nextTo_44 ?_
          refine g_iconst hX (pc := 45) (v := 1) dX5_nextTo_45 (by decide) ?_
          refine g_icmp_eq hX (pc := 46) dX5_nextTo_46 (tgt := 172) (by decide) (fun c11 => ?_) (fun c11 => ?_)
          · replace h := ifP c11 h
            exact Kj10 ((s2, s3, s4)) (Option.some.inj h)
          · replace h := ifN c11 h
            refine g_iload_n hX (pc := 49) (i := 3) dX5_nextTo_49 rfl 3 rfl ?_
            refine g_aload_n hX (pc := 50) (i := 0) dX5_nextTo_50 rfl 0 rfl ?_
            refine g_iload hX (pc := 51) dX5_nextTo_51 8 rfl ?_
            obtain ⟨r12, e_r12, h⟩ := bnd h
            refine g_callVi hX (pc := 53) (d := d + 0) hr0 [.int s5] (c := 5) (ct_X5_needOf (d := d + 0) ho0 e_r12) ho0.1.1 ho0.1.2 (by decide) rfl co_X5_needOf ml_X5_237 im_X5_needOf sl_X5_needOf ini_X5 nm_X5_needOf (by decide) ⟨Nat.le_refl _, Nat.le_refl _⟩ (Nat.le_refl _) (Nat.le_of_ble_eq_true rfl) rfl dX5_nextTo_53 ?_
            refine g_iadd hX (pc := 56) dX5_nextTo_56 ?_
            refine g_aload_n hX (pc := 57) (i := 0) dX5_nextTo_57 rfl 0 rfl ?_
            refine gf5_17 hX (pc := 58) ho0 fl_X5_26 dX5_nextTo_58 ?_
            refine g_iconst hX (pc := 61) (v := 0) dX5_nextTo_61 (by decide) ?_
            obtain ⟨v13, e_v13, h⟩ := bnd h
            refine g_ialoadE hX (pc := 62) (s5_17 ho0).1 (s5_17 ho0).2.1 (s5_17 ho0).2.2.1 e_v13 dX5_nextTo_62 ?_
            refine g_icmp_le hX (pc := 63) dX5_nextTo_63 (tgt := 69) (by decide) (fun c14 => ?_) (fun c14 => ?_)
            · replace h := ifP c14 h
              refine g_goto hX (pc := 66) (tgt := 172) dX5_nextTo_66 (by decide) ?_
              exact Kj10 ((s2, s3, s4)) (Option.some.inj h)
            · replace h := ifN c14 h
              refine g_aload_n hX (pc := 69) (i := 0) dX5_nextTo_69 rfl 0 rfl ?_
              refine g_iconst hX (pc := 70) (v := 1) dX5_nextTo_70 (by decide) ?_
              refine g_iload hX (pc := 71) dX5_nextTo_71 8 rfl ?_
              refine g_ishl hX (pc := 73) dX5_nextTo_73 ?_
              obtain ⟨r15, e_r15, h⟩ := bnd h
              refine g_callVi hX (pc := 74) (d := d + 0) hr0 [.int ((1 : Int32) <<< (s5 &&& 31))] (c := 5) (ct_X5_itemsOf (d := d + 0) ho0 e_r15) ho0.1.1 ho0.1.2 (by decide) rfl co_X5_itemsOf ml_X5_250 im_X5_itemsOf sl_X5_itemsOf ini_X5 nm_X5_itemsOf (by decide) ⟨Nat.le_refl _, Nat.le_refl _⟩ (Nat.le_refl _) (Nat.le_of_ble_eq_true rfl) rfl dX5_nextTo_74 ?_
              refine g_istore hX (pc := 77) (ls' := [(0, .ref o0), (1, .int x1), (2, .int x2), (3, .int x3), (4, .int r1), (5, .int s2), (6, .int s3), (7, .int s4), (8, .int s5), (9, .int r15)]) [1, 2, 3, 4, 5, 6, 7, 8, 9, 0] dX5_nextTo_77 (by decide) rfl ?_
              refine g_iload hX (pc := 79) dX5_nextTo_79 9 rfl ?_
              refine g_iload hX (pc := 81) dX5_nextTo_81 4 rfl ?_
              refine g_iand hX (pc := 83) dX5_nextTo_83 ?_
              obtain ⟨r16, e_r16, h⟩ := bnd h
              refine g_callSi hX (pc := 84) (d := d + 0) hr0 [.int (r15 &&& r1)] (ct_X5_count1 (d := d + 0)  e_r16) co_X5_count1 ml_X5_253 sta_X5_count1 ini_X5 nm_X5_count1 (by decide) ⟨Nat.le_refl _, Nat.le_refl _⟩ (Nat.le_refl _) (Nat.le_of_ble_eq_true rfl) rfl dX5_nextTo_84 ?_
              refine g_istore hX (pc := 87) (ls' := [(0, .ref o0), (1, .int x1), (2, .int x2), (3, .int x3), (4, .int r1), (5, .int s2), (6, .int s3), (7, .int s4), (8, .int s5), (9, .int r15), (10, .int r16)]) [1, 2, 3, 4, 5, 6, 7, 8, 9, 10, 0] dX5_nextTo_87 (by decide) rfl ?_
              refine g_iload hX (pc := 89) dX5_nextTo_89 9 rfl ?_
              refine g_iload hX (pc := 91) dX5_nextTo_91 4 rfl ?_
              refine g_iconst hX (pc := 93) (v := (-1)) dX5_nextTo_93 (by decide) ?_
              refine g_ixor hX (pc := 94) dX5_nextTo_94 ?_
              refine g_iand hX (pc := 95) dX5_nextTo_95 ?_
              obtain ⟨r17, e_r17, h⟩ := bnd h
              refine g_callSi hX (pc := 96) (d := d + 0) hr0 [.int (r15 &&& (r1 ^^^ ((-1))))] (ct_X5_count1 (d := d + 0)  e_r17) co_X5_count1 ml_X5_253 sta_X5_count1 ini_X5 nm_X5_count1 (by decide) ⟨Nat.le_refl _, Nat.le_refl _⟩ (Nat.le_refl _) (Nat.le_of_ble_eq_true rfl) rfl dX5_nextTo_96 ?_
              refine g_istore hX (pc := 99) (ls' := [(0, .ref o0), (1, .int x1), (2, .int x2), (3, .int x3), (4, .int r1), (5, .int s2), (6, .int s3), (7, .int s4), (8, .int s5), (9, .int r15), (10, .int r16), (11, .int r17)]) [1, 2, 3, 4, 5, 6, 7, 8, 9, 10, 11, 0] dX5_nextTo_99 (by decide) rfl ?_
              refine g_iload hX (pc := 101) dX5_nextTo_101 5 rfl ?_
              obtain ⟨p26, hpj19, h⟩ := bnd h
              have Kj19 : ∀ qj19 : Int32, qj19 = p26 → GW E X (QX E X 0 0 (some (.int rr)) z J I) 13 150 [(0, .ref o0), (1, .int x1), (2, .int x2), (3, .int x3), (4, .int r1), (5, .int s2), (6, .int s3), (7, .int s4), (8, .int s5), (9, .int r15), (10, .int r16), (11, .int r17)] [.int qj19] z J I 0 0 := by
                intro qj19 hqj19
                subst hqj19
                refine g_istore hX (pc := 150) (ls' := [(0, .ref o0), (1, .int x1), (2, .int x2), (3, .int x3), (4, .int r1), (5, .int s2), (6, .int s3), (7, .int s4), (8, .int s5), (9, .int r15), (10, .int r16), (11, .int r17), (12, .int qj19)]) [1, 2, 3, 4, 5, 6, 7, 8, 9, 10, 11, 12, 0] dX5_nextTo_150 (by decide) rfl ?_
                refine g_iload hX (pc := 152) dX5_nextTo_152 12 rfl ?_
                refine g_if_ne hX (pc := 154) dX5_nextTo_154 (tgt := 160) (by decide) (fun c27 => ?_) (fun c27 => ?_)
                · replace h := ifP c27 h
                  refine g_goto hX (pc := 157) (tgt := 172) dX5_nextTo_157 (by decide) ?_
                  refine g_sub (ls' := [(0, .ref o0), (1, .int x1), (2, .int x2), (3, .int x3), (4, .int r1), (5, .int s2), (6, .int s3), (7, .int s4), (8, .int s5)]) [0, 1, 2, 3, 4, 5, 6, 7, 8] rfl ?_
                  exact Kj10 ((s2, s3, s4)) (Option.some.inj h)
                · replace h := ifN c27 h
                  refine g_iload hX (pc := 160) dX5_nextTo_160 8 rfl ?_
                  refine g_istore hX (pc := 162) (ls' := [(0, .ref o0), (1, .int x1), (2, .int x2), (3, .int x3), (4, .int r1), (5, .int s5), (6, .int s3), (7, .int s4), (8, .int s5), (9, .int r15), (10, .int r16), (11, .int r17), (12, .int qj19)]) [1, 2, 3, 4, 5, 0, 6, 7, 8, 9, 10, 11, 12] dX5_nextTo_162 (by decide) rfl ?_
                  refine g_iload hX (pc := 164) dX5_nextTo_164 10 rfl ?_
                  refine g_istore hX (pc := 166) (ls' := [(0, .ref o0), (1, .int x1), (2, .int x2), (3, .int x3), (4, .int r1), (5, .int s5), (6, .int r16), (7, .int s4), (8, .int s5), (9, .int r15), (10, .int r16), (11, .int r17), (12, .int qj19)]) [1, 2, 3, 4, 5, 6, 0, 7, 8, 9, 10, 11, 12] dX5_nextTo_166 (by decide) rfl ?_
                  refine g_iload hX (pc := 168) dX5_nextTo_168 11 rfl ?_
                  refine g_istore hX (pc := 170) (ls' := [(0, .ref o0), (1, .int x1), (2, .int x2), (3, .int x3), (4, .int r1), (5, .int s5), (6, .int r16), (7, .int r17), (8, .int s5), (9, .int r15), (10, .int r16), (11, .int r17), (12, .int qj19)]) [1, 2, 3, 4, 5, 6, 7, 0, 8, 9, 10, 11, 12] dX5_nextTo_170 (by decide) rfl ?_
                  refine g_sub (ls' := [(0, .ref o0), (1, .int x1), (2, .int x2), (3, .int x3), (4, .int r1), (5, .int s5), (6, .int r16), (7, .int r17), (8, .int s5)]) [0, 1, 2, 3, 4, 5, 6, 7, 8] rfl ?_
                  exact Kj10 ((s5, r16, r17)) (Option.some.inj h)
              replace h := hpj19
              clear hpj19
              refine g_if_lt hX (pc := 103) dX5_nextTo_103 (tgt := 145) (by decide) (fun c18 => ?_) (fun c18 => ?_)
              · replace h := ifP c18 h
                refine g_iconst hX (pc := 145) (v := 1) dX5_nextTo_145 (by decide) ?_
                refine g_goto hX (pc := 146) (tgt := 150) dX5_nextTo_146 (by decide) ?_
                exact Kj19 1 (Option.some.inj h)
              · replace h := ifN c18 h
                refine g_iload hX (pc := 106) dX5_nextTo_106 10 rfl ?_
                refine g_iload hX (pc := 108) dX5_nextTo_108 6 rfl ?_
                refine g_icmp_gt hX (pc := 110) dX5_nextTo_110 (tgt := 145) (by decide) (fun c20 => ?_) (fun c20 => ?_)
                · replace h := ifP c20 h
                  refine g_iconst hX (pc := 145) (v := 1) dX5_nextTo_145 (by decide) ?_
                  refine g_goto hX (pc := 146) (tgt := 150) dX5_nextTo_146 (by decide) ?_
                  exact Kj19 1 (Option.some.inj h)
                · replace h := ifN c20 h
                  refine g_iload hX (pc := 113) dX5_nextTo_113 10 rfl ?_
                  refine g_iload hX (pc := 115) dX5_nextTo_115 6 rfl ?_
                  refine g_icmp_ne hX (pc := 117) dX5_nextTo_117 (tgt := 149) (by decide) (fun c21 => ?_) (fun c21 => ?_)
                  · replace h := ifP c21 h
                    refine g_iload hX (pc := 120) dX5_nextTo_120 11 rfl ?_
                    refine g_iload hX (pc := 122) dX5_nextTo_122 7 rfl ?_
                    refine g_icmp_lt hX (pc := 124) dX5_nextTo_124 (tgt := 145) (by decide) (fun c22 => ?_) (fun c22 => ?_)
                    · replace h := ifP c22 h
                      refine g_iconst hX (pc := 145) (v := 1) dX5_nextTo_145 (by decide) ?_
                      refine g_goto hX (pc := 146) (tgt := 150) dX5_nextTo_146 (by decide) ?_
                      exact Kj19 1 (Option.some.inj h)
                    · replace h := ifN c22 h
                      refine g_iload hX (pc := 127) dX5_nextTo_127 11 rfl ?_
                      refine g_iload hX (pc := 129) dX5_nextTo_129 7 rfl ?_
                      refine g_icmp_ne hX (pc := 131) dX5_nextTo_131 (tgt := 149) (by decide) (fun c23 => ?_) (fun c23 => ?_)
                      · replace h := ifP c23 h
                        refine g_aload_n hX (pc := 134) (i := 0) dX5_nextTo_134 rfl 0 rfl ?_
                        refine g_iload hX (pc := 135) dX5_nextTo_135 8 rfl ?_
                        refine g_iload hX (pc := 137) dX5_nextTo_137 5 rfl ?_
                        obtain ⟨r24, e_r24, h⟩ := bnd h
                        refine g_callVi hX (pc := 139) (d := d + 0) hr0 [.int s5, .int s2] (c := 5) (ct_X5_isEarlier (d := d + 0) ho0 e_r24) ho0.1.1 ho0.1.2 (by decide) rfl co_X5_isEarlier ml_X5_247 im_X5_isEarlier sl_X5_isEarlier ini_X5 nm_X5_isEarlier (by decide) ⟨Nat.le_refl _, Nat.le_refl _⟩ (Nat.le_refl _) (Nat.le_of_ble_eq_true rfl) rfl dX5_nextTo_139 ?_
                        refine g_if_eq hX (pc := 142) dX5_nextTo_142 (tgt := 149) (by decide) (fun c25 => ?_) (fun c25 => ?_)
                        · replace h := ifP c25 h
                          refine g_iconst hX (pc := 149) (v := 0) dX5_nextTo_149 (by decide) ?_
                          exact Kj19 0 (Option.some.inj h)
                        · replace h := ifN c25 h
                          refine g_iconst hX (pc := 145) (v := 1) dX5_nextTo_145 (by decide) ?_
                          refine g_goto hX (pc := 146) (tgt := 150) dX5_nextTo_146 (by decide) ?_
                          exact Kj19 1 (Option.some.inj h)
                      · replace h := ifN c23 h
                        refine g_iconst hX (pc := 149) (v := 0) dX5_nextTo_149 (by decide) ?_
                        exact Kj19 0 (Option.some.inj h)
                  · replace h := ifN c21 h
                    refine g_iconst hX (pc := 149) (v := 0) dX5_nextTo_149 (by decide) ?_
                    exact Kj19 0 (Option.some.inj h)
      · replace h := ifN c8 h
        obtain rfl := Option.some.inj h
        exact Kl6 ((s2, s3, s4, s5)) hwl6
  exact Ll6 kl6 ((-1)) 0 0 0 hkl6
noncomputable def b_X5_waveOf_18 (o0 : Nat) (x1 : Int32) (x2 : Int32) (J : MJ) (I : MI) (s : Int32 × Int32 × Int32) : Option ((Int32 × Int32 × Int32) ⊕ (Int32 × Int32 × Int32)) :=
  if s.1 < 0 then
    some (.inr ((s.1, s.2.1, s.2.2)))
  else
    (f_X5_needOf o0 s.1 J I).bind fun r8 =>
    (f_X5_count1 (s.2.1 ||| ((1 : Int32) <<< (s.1 &&& 31)))).bind fun r9 =>
    (if r9 < x2 then
      (f_X5_nextTo o0 (s.2.1 ||| ((1 : Int32) <<< (s.1 &&& 31))) x1 (s.2.2 + r8) J I).bind fun r12 =>
      some r12
    else
      some ((-1))).bind fun (p13 : Int32) =>
    some (.inl ((p13, s.2.1 ||| ((1 : Int32) <<< (s.1 &&& 31)), s.2.2 + r8)))
noncomputable def f_X5_waveOf (o0 : Nat) (x1 : Int32) (x2 : Int32) (J : MJ) (I : MI) : Option (Int32) :=
  if x1 = 0 then
    some 0
  else
    (f_X5_firstOf o0 x1 J I).bind fun r2 =>
    (lp (b_X5_waveOf_18 o0 x1 x2 J I) ((r2, 0, 0))).bind fun p14 =>
    some p14.2.1
theorem nm_X5_waveOf : yX5_waveOf.cls ≠ "java/lang/invoke/MethodHandle" ∧ yX5_waveOf.cls ≠ "java/lang/invoke/VarHandle" ∧ (parseMethodDescriptor yX5_waveOf.desc).map (fun d => d.parameters.length) = some 2 := by decide +kernel
set_option maxRecDepth 100000 in
set_option maxHeartbeats 4000000 in
theorem ct_X5_waveOf {E : Ev} {d : Nat} {z : Sh} {J : MJ} {I : MI} {o0 : Nat} {x1 : Int32} {x2 : Int32} {rr : Int32} (ho0 : oX5 z o0) (h : f_X5_waveOf o0 x1 x2 J I = some rr) : Ct E (d + 2) yX5_waveOf cX5_waveOf 6 (some .int) 0 0 [.ref o0, .int x1, .int x2] z J I (some (.int rr)) z J I := by
  unfold f_X5_waveOf at h
  refine Ct.of (own := RX5) (ls := [(0, .ref o0), (1, .int x1), (2, .int x2)]) (by decide) rfl (Nat.le_of_ble_eq_true rfl) rfl ?_
  intro X hr0 hnm hX
  refine g_iload_n hX (pc := 0) (i := 1) dX5_waveOf_0 rfl 1 rfl ?_
  refine g_if_ne hX (pc := 1) dX5_waveOf_1 (tgt := 6) (by decide) (fun c1 => ?_) (fun c1 => ?_)
  · replace h := ifP c1 h
    refine g_iconst hX (pc := 4) (v := 0) dX5_waveOf_4 (by decide) ?_
    obtain rfl := Option.some.inj h
    exact g_ireturn hX (Nat.le_refl _) (Nat.le_refl _) dX5_waveOf_5
  · replace h := ifN c1 h
    refine g_aload_n hX (pc := 6) (i := 0) dX5_waveOf_6 rfl 0 rfl ?_
    refine g_iload_n hX (pc := 7) (i := 1) dX5_waveOf_7 rfl 1 rfl ?_
    obtain ⟨r2, e_r2, h⟩ := bnd h
    refine g_callVi hX (pc := 8) (d := d + 1) hr0 [.int x1] (c := 5) (ct_X5_firstOf (d := d + 0) ho0 e_r2) ho0.1.1 ho0.1.2 (by decide) rfl co_X5_firstOf ml_X5_256 im_X5_firstOf sl_X5_firstOf ini_X5 nm_X5_firstOf (by decide) ⟨Nat.le_refl _, Nat.le_refl _⟩ (Nat.le_refl _) (Nat.le_of_ble_eq_true rfl) rfl dX5_waveOf_8 ?_
    refine g_istore_n hX (pc := 11) (i := 3) (ls' := [(0, .ref o0), (1, .int x1), (2, .int x2), (3, .int r2)]) [1, 2, 3, 0] dX5_waveOf_11 rfl (by decide) rfl ?_
    refine g_iconst hX (pc := 12) (v := 0) dX5_waveOf_12 (by decide) ?_
    refine g_istore hX (pc := 13) (ls' := [(0, .ref o0), (1, .int x1), (2, .int x2), (3, .int r2), (4, .int 0)]) [1, 2, 3, 4, 0] dX5_waveOf_13 (by decide) rfl ?_
    refine g_iconst hX (pc := 15) (v := 0) dX5_waveOf_15 (by decide) ?_
    refine g_istore hX (pc := 16) (ls' := [(0, .ref o0), (1, .int x1), (2, .int x2), (3, .int r2), (4, .int 0), (5, .int 0)]) [1, 2, 3, 4, 5, 0] dX5_waveOf_16 (by decide) rfl ?_
    obtain ⟨p14, hpl6, h⟩ := bnd h
    have Kl6 : ∀ ql6 : Int32 × Int32 × Int32, ql6 = p14 → GW E X (QX E X 0 0 (some (.int rr)) z J I) 6 66 [(0, .ref o0), (1, .int x1), (2, .int x2), (3, .int ql6.1), (4, .int ql6.2.1), (5, .int ql6.2.2)] [] z J I 0 0 := by
      intro ql6 hql6
      subst hql6
      refine g_iload hX (pc := 66) dX5_waveOf_66 4 rfl ?_
      obtain rfl := Option.some.inj h
      exact g_ireturn hX (Nat.le_refl _) (Nat.le_refl _) dX5_waveOf_68
    obtain ⟨kl6, hkl6⟩ := lp_ex hpl6
    clear hpl6 h
    have Ll6 : ∀ k : Nat, ∀ (s3 : Int32) (s4 : Int32) (s5 : Int32), lpN k (b_X5_waveOf_18 o0 x1 x2 J I) ((s3, s4, s5)) = some p14 → GW E X (QX E X 0 0 (some (.int rr)) z J I) 6 18 [(0, .ref o0), (1, .int x1), (2, .int x2), (3, .int s3), (4, .int s4), (5, .int s5)] [] z J I 0 0 := by
      intro k
      induction k with
      | zero => intro s3 s4 s5 h; cases h
      | succ k ihl6 =>
        intro s3 s4 s5 h
        obtain ⟨wl6, h, hwl6⟩ := lpN_s h
        unfold b_X5_waveOf_18 at h
        try dsimp only at h
        refine g_iload_n hX (pc := 18) (i := 3) dX5_waveOf_18 rfl 3 rfl ?_
        refine g_if_lt hX (pc := 19) dX5_waveOf_19 (tgt := 66) (by decide) (fun c7 => ?_) (fun c7 => ?_)
        · replace h := ifP c7 h
          obtain rfl := Option.some.inj h
          exact Kl6 ((s3, s4, s5)) hwl6
        · replace h := ifN c7 h
          refine g_iload hX (pc := 22) dX5_waveOf_22 4 rfl ?_
          refine g_iconst hX (pc := 24) (v := 1) dX5_waveOf_24 (by decide) ?_
          refine g_iload_n hX (pc := 25) (i := 3) dX5_waveOf_25 rfl 3 rfl ?_
          refine g_ishl hX (pc := 26) dX5_waveOf_26 ?_
          refine g_ior hX (pc := 27) dX5_waveOf_27 ?_
          refine g_istore hX (pc := 28) (ls' := [(0, .ref o0), (1, .int x1), (2, .int x2), (3, .int s3), (4, .int (s4 ||| ((1 : Int32) <<< (s3 &&& 31)))), (5, .int s5)]) [1, 2, 3, 4, 0, 5] dX5_waveOf_28 (by decide) rfl ?_
          refine g_iload hX (pc := 30) dX5_waveOf_30 5 rfl ?_
          refine g_aload_n hX (pc := 32) (i := 0) dX5_waveOf_32 rfl 0 rfl ?_
          refine g_iload_n hX (pc := 33) (i := 3) dX5_waveOf_33 rfl 3 rfl ?_
          obtain ⟨r8, e_r8, h⟩ := bnd h
          refine g_callVi hX (pc := 34) (d := d + 1) hr0 [.int s3] (c := 5) (ct_X5_needOf (d := d + 1) ho0 e_r8) ho0.1.1 ho0.1.2 (by decide) rfl co_X5_needOf ml_X5_237 im_X5_needOf sl_X5_needOf ini_X5 nm_X5_needOf (by decide) ⟨Nat.le_refl _, Nat.le_refl _⟩ (Nat.le_refl _) (Nat.le_of_ble_eq_true rfl) rfl dX5_waveOf_34 ?_
          refine g_iadd hX (pc := 37) dX5_waveOf_37 ?_
          refine g_istore hX (pc := 38) (ls' := [(0, .ref o0), (1, .int x1), (2, .int x2), (3, .int s3), (4, .int (s4 ||| ((1 : Int32) <<< (s3 &&& 31)))), (5, .int (s5 + r8))]) [1, 2, 3, 4, 5, 0] dX5_waveOf_38 (by decide) rfl ?_
          refine g_iload hX (pc := 40) dX5_waveOf_40 4 rfl ?_
          obtain ⟨r9, e_r9, h⟩ := bnd h
          refine g_callSi hX (pc := 42) (d := d + 1) hr0 [.int (s4 ||| ((1 : Int32) <<< (s3 &&& 31)))] (ct_X5_count1 (d := d + 1)  e_r9) co_X5_count1 ml_X5_253 sta_X5_count1 ini_X5 nm_X5_count1 (by decide) ⟨Nat.le_refl _, Nat.le_refl _⟩ (Nat.le_refl _) (Nat.le_of_ble_eq_true rfl) rfl dX5_waveOf_42 ?_
          refine g_iload_n hX (pc := 45) (i := 2) dX5_waveOf_45 rfl 2 rfl ?_
          obtain ⟨p13, hpj11, h⟩ := bnd h
          have Kj11 : ∀ qj11 : Int32, qj11 = p13 → GW E X (QX E X 0 0 (some (.int rr)) z J I) 6 62 [(0, .ref o0), (1, .int x1), (2, .int x2), (3, .int s3), (4, .int (s4 ||| ((1 : Int32) <<< (s3 &&& 31)))), (5, .int (s5 + r8))] [.int qj11] z J I 0 0 := by
            intro qj11 hqj11
            subst hqj11
            refine g_istore_n hX (pc := 62) (i := 3) (ls' := [(0, .ref o0), (1, .int x1), (2, .int x2), (3, .int qj11), (4, .int (s4 ||| ((1 : Int32) <<< (s3 &&& 31)))), (5, .int (s5 + r8))]) [1, 2, 3, 0, 4, 5] dX5_waveOf_62 rfl (by decide) rfl ?_
            refine g_goto hX (pc := 63) (tgt := 18) dX5_waveOf_63 (by decide) ?_
            obtain rfl := Option.some.inj h
            exact ihl6 qj11 (s4 ||| ((1 : Int32) <<< (s3 &&& 31))) (s5 + r8) hwl6
          replace h := hpj11
          clear hpj11
          refine g_icmp_ge hX (pc := 46) dX5_waveOf_46 (tgt := 61) (by decide) (fun c10 => ?_) (fun c10 => ?_)
          · replace h := ifP c10 h
            refine g_aload_n hX (pc := 49) (i := 0) dX5_waveOf_49 rfl 0 rfl ?_
            refine g_iload hX (pc := 50) dX5_waveOf_50 4 rfl ?_
            refine g_iload_n hX (pc := 52) (i := 1) dX5_waveOf_52 rfl 1 rfl ?_
            refine g_iload hX (pc := 53) dX5_waveOf_53 5 rfl ?_
            obtain ⟨r12, e_r12, h⟩ := bnd h
            refine g_callVi hX (pc := 55) (d := d + 1) hr0 [.int (s4 ||| ((1 : Int32) <<< (s3 &&& 31))), .int x1, .int (s5 + r8)] (c := 5) (ct_X5_nextTo (d := d + 0) ho0 e_r12) ho0.1.1 ho0.1.2 (by decide) rfl co_X5_nextTo ml_X5_259 im_X5_nextTo sl_X5_nextTo ini_X5 nm_X5_nextTo (by decide) ⟨Nat.le_refl _, Nat.le_refl _⟩ (Nat.le_refl _) (Nat.le_of_ble_eq_true rfl) rfl dX5_waveOf_55 ?_
            refine g_goto hX (pc := 58) (tgt := 62) dX5_waveOf_58 (by decide) ?_
            exact Kj11 r12 (Option.some.inj h)
          · replace h := ifN c10 h
            refine g_iconst hX (pc := 61) (v := (-1)) dX5_waveOf_61 (by decide) ?_
            exact Kj11 ((-1)) (Option.some.inj h)
    exact Ll6 kl6 r2 0 0 hkl6
noncomputable def f_X5_nextWave (o0 : Nat) (J : MJ) (I : MI) : Option (Int32) :=
  (f_X5_waiting o0 J I).bind fun r1 =>
  (rd 2 (I (o0 + 5)) 0).bind fun v2 =>
  (f_X5_waveOf o0 r1 v2 J I).bind fun r3 =>
  some r3
theorem nm_X5_nextWave : yX5_nextWave.cls ≠ "java/lang/invoke/MethodHandle" ∧ yX5_nextWave.cls ≠ "java/lang/invoke/VarHandle" ∧ (parseMethodDescriptor yX5_nextWave.desc).map (fun d => d.parameters.length) = some 0 := by decide +kernel
set_option maxRecDepth 100000 in
set_option maxHeartbeats 4000000 in
theorem ct_X5_nextWave {E : Ev} {d : Nat} {z : Sh} {J : MJ} {I : MI} {o0 : Nat} {rr : Int32} (ho0 : oX5 z o0) (h : f_X5_nextWave o0 J I = some rr) : Ct E (d + 3) yX5_nextWave cX5_nextWave 1 (some .int) 0 0 [.ref o0] z J I (some (.int rr)) z J I := by
  unfold f_X5_nextWave at h
  refine Ct.of (own := RX5) (ls := [(0, .ref o0)]) (by decide) rfl (Nat.le_of_ble_eq_true rfl) rfl ?_
  intro X hr0 hnm hX
  refine g_aload_n hX (pc := 0) (i := 0) dX5_nextWave_0 rfl 0 rfl ?_
  refine g_aload_n hX (pc := 1) (i := 0) dX5_nextWave_1 rfl 0 rfl ?_
  obtain ⟨r1, e_r1, h⟩ := bnd h
  refine g_callVi hX (pc := 2) (d := d + 2) hr0 [] (c := 5) (ct_X5_waiting (d := d + 2) ho0 e_r1) ho0.1.1 ho0.1.2 (by decide) rfl co_X5_waiting ml_X5_263 im_X5_waiting sl_X5_waiting ini_X5 nm_X5_waiting (by decide) ⟨Nat.le_refl _, Nat.le_refl _⟩ (Nat.le_refl _) (Nat.le_of_ble_eq_true rfl) rfl dX5_nextWave_2 ?_
  refine g_aload_n hX (pc := 5) (i := 0) dX5_nextWave_5 rfl 0 rfl ?_
  refine gf5_16 hX (pc := 6) ho0 fl_X5_23 dX5_nextWave_6 ?_
  refine g_iconst hX (pc := 9) (v := 0) dX5_nextWave_9 (by decide) ?_
  obtain ⟨v2, e_v2, h⟩ := bnd h
  refine g_ialoadE hX (pc := 10) (s5_16 ho0).1 (s5_16 ho0).2.1 (s5_16 ho0).2.2.1 e_v2 dX5_nextWave_10 ?_
  obtain ⟨r3, e_r3, h⟩ := bnd h
  refine g_callVi hX (pc := 11) (d := d + 2) hr0 [.int r1, .int v2] (c := 5) (ct_X5_waveOf (d := d + 0) ho0 e_r3) ho0.1.1 ho0.1.2 (by decide) rfl co_X5_waveOf ml_X5_266 im_X5_waveOf sl_X5_waveOf ini_X5 nm_X5_waveOf (by decide) ⟨Nat.le_refl _, Nat.le_refl _⟩ (Nat.le_refl _) (Nat.le_of_ble_eq_true rfl) rfl dX5_nextWave_11 ?_
  obtain rfl := Option.some.inj h
  exact g_ireturn hX (Nat.le_refl _) (Nat.le_refl _) dX5_nextWave_14
noncomputable def f_X5_wave (o0 : Nat) (J : MJ) (I : MI) : Option (Int32 × MI) :=
  (wf I o0 0 0).bind fun I1 =>
  (f_X5_nextWave o0 J I1).bind fun r2 =>
  some ((r2, I1))
theorem nm_X5_wave : yX5_wave.cls ≠ "java/lang/invoke/MethodHandle" ∧ yX5_wave.cls ≠ "java/lang/invoke/VarHandle" ∧ (parseMethodDescriptor yX5_wave.desc).map (fun d => d.parameters.length) = some 0 := by decide +kernel
set_option maxRecDepth 100000 in
set_option maxHeartbeats 4000000 in
theorem ct_X5_wave {E : Ev} {d : Nat} {z : Sh} {J : MJ} {I : MI} {o0 : Nat} {rr : Int32} {Iz : MI} (ho0 : oX5 z o0) (h : f_X5_wave o0 J I = some ((rr, Iz))) : Ct E (d + 4) yX5_wave cX5_wave 1 (some .int) 0 0 [.ref o0] z J I (some (.int rr)) z J Iz := by
  unfold f_X5_wave at h
  refine Ct.of (own := RX5) (ls := [(0, .ref o0)]) (by decide) rfl (Nat.le_of_ble_eq_true rfl) rfl ?_
  intro X hr0 hnm hX
  refine g_aload_n hX (pc := 0) (i := 0) dX5_wave_0 rfl 0 rfl ?_
  refine g_iconst hX (pc := 1) (v := 0) dX5_wave_1 (by decide) ?_
  obtain ⟨I1, e_I1, h⟩ := bnd h
  refine pf5_0 hX (pc := 2) ho0 fl_X5_86 dX5_wave_2 e_I1 ?_
  refine g_aload_n hX (pc := 5) (i := 0) dX5_wave_5 rfl 0 rfl ?_
  obtain ⟨r2, e_r2, h⟩ := bnd h
  refine g_callVi hX (pc := 6) (d := d + 3) hr0 [] (c := 5) (ct_X5_nextWave (d := d + 0) ho0 e_r2) ho0.1.1 ho0.1.2 (by decide) rfl co_X5_nextWave ml_X5_269 im_X5_nextWave sl_X5_nextWave ini_X5 nm_X5_nextWave (by decide) ⟨Nat.le_refl _, Nat.le_refl _⟩ (Nat.le_refl _) (Nat.le_of_ble_eq_true rfl) rfl dX5_wave_6 ?_
  replace h := Option.some.inj h
  obtain ⟨rfl, rfl⟩ := Prod.mk.inj h
  exact g_ireturn hX (Nat.le_refl _) (Nat.le_refl _) dX5_wave_9
noncomputable def b_X5_laysPicks_44 (o0 : Nat) (x1 : Int32) (s6 : Int32) (I7 : MI) (s : Int32 × Int32) : Option ((Int32 × Int32) ⊕ (Int32 × Int32)) :=
  (rd 2 (I7 (o0 + 3)) 0).bind fun v17 =>
  if s.2 < v17 then
    (if ((x1 >>> (s.2 &&& 31)) &&& 1) = 1 then
      (rd 320 (I7 (o0 + 12)) ((10 * s.2) + s6)).bind fun v21 =>
      some v21
    else
      some 0).bind fun (p22 : Int32) =>
    some (.inl ((s.1 + p22, s.2 + 1)))
  else
    some (.inr ((s.1, s.2)))
noncomputable def b_X5_laysPicks_15 (o0 : Nat) (x1 : Int32) (s2 : Int32) (s : Int32 × MI) : Option ((Int32 × MI) ⊕ (Int32 × MI)) :=
  (rd 2 (s.2 (o0 + 2)) 0).bind fun v9 =>
  if s.1 < v9 then
    (rd 20 (s.2 (o0 + 8)) s.1).bind fun v11 =>
    (if v11 = s2 then
      (lp (b_X5_laysPicks_44 o0 x1 s.1 s.2) ((0, 0))).bind fun p23 =>
      (rd 2117 (s.2 (o0 + 13)) s.1).bind fun v24 =>
      (if p23.1 < v24 then
        some p23.1
      else
        (rd 2117 (s.2 (o0 + 13)) s.1).bind fun v27 =>
        some v27).bind fun (p28 : Int32) =>
      if p28 = 0 then
        some s.2
      else
        (wr 10 s.2 (o0 + 18) (s.2 o0 35) s.1).bind fun I30 =>
        (wr 10 I30 (o0 + 19) (I30 o0 35) p28).bind fun I31 =>
        (wf I31 o0 35 ((I31 o0 35) + 1)).bind fun I32 =>
        some I32
    else
      some s.2).bind fun (p33 : MI) =>
    some (.inl ((s.1 + 1, p33)))
  else
    some (.inr ((s.1, s.2)))
noncomputable def b_X5_laysPicks_7 (o0 : Nat) (x1 : Int32) (s : Int32 × MI) : Option ((Int32 × MI) ⊕ (Int32 × MI)) :=
  if 99 < s.1 then
    some (.inr ((s.1, s.2)))
  else
    (lp (b_X5_laysPicks_15 o0 x1 s.1) ((0, s.2))).bind fun p34 =>
    some (.inl ((s.1 + 1, p34.2)))
noncomputable def f_X5_laysPicks (o0 : Nat) (x1 : Int32) (J : MJ) (I : MI) : Option (MI) :=
  (wf I o0 35 0).bind fun I1 =>
  (lp (b_X5_laysPicks_7 o0 x1) ((0, I1))).bind fun p35 =>
  some p35.2
theorem nm_X5_laysPicks : yX5_laysPicks.cls ≠ "java/lang/invoke/MethodHandle" ∧ yX5_laysPicks.cls ≠ "java/lang/invoke/VarHandle" ∧ (parseMethodDescriptor yX5_laysPicks.desc).map (fun d => d.parameters.length) = some 1 := by decide +kernel
set_option maxRecDepth 100000 in
set_option maxHeartbeats 4000000 in
theorem ct_X5_laysPicks {E : Ev} {d : Nat} {z : Sh} {J : MJ} {I : MI} {o0 : Nat} {x1 : Int32} {Iz : MI} (ho0 : oX5 z o0) (h : f_X5_laysPicks o0 x1 J I = some Iz) : Ct E (d + 0) yX5_laysPicks cX5_laysPicks 6 none 0 0 [.ref o0, .int x1] z J I none z J Iz := by
  unfold f_X5_laysPicks at h
  refine Ct.of (own := RX5) (ls := [(0, .ref o0), (1, .int x1)]) (by decide) rfl (Nat.le_of_ble_eq_true rfl) rfl ?_
  intro X hr0 hnm hX
  refine g_aload_n hX (pc := 0) (i := 0) dX5_laysPicks_0 rfl 0 rfl ?_
  refine g_iconst hX (pc := 1) (v := 0) dX5_laysPicks_1 (by decide) ?_
  obtain ⟨I1, e_I1, h⟩ := bnd h
  refine pf5_35 hX (pc := 2) ho0 fl_X5_272 dX5_laysPicks_2 e_I1 ?_
  refine g_iconst hX (pc := 5) (v := 0) dX5_laysPicks_5 (by decide) ?_
  refine g_istore_n hX (pc := 6) (i := 2) (ls' := [(0, .ref o0), (1, .int x1), (2, .int 0)]) [1, 2, 0] dX5_laysPicks_6 rfl (by decide) rfl ?_
  obtain ⟨p35, hpl4, h⟩ := bnd h
  have Kl4 : ∀ ql4 : Int32 × MI, ql4 = p35 → GW E X (QX E X 0 0 none z J Iz) 6 167 [(0, .ref o0), (1, .int x1), (2, .int ql4.1)] [] z J ql4.2 0 0 := by
    intro ql4 hql4
    subst hql4
    obtain rfl := Option.some.inj h
    exact g_return hX (Nat.le_refl _) (Nat.le_refl _) dX5_laysPicks_167
  obtain ⟨kl4, hkl4⟩ := lp_ex hpl4
  clear hpl4 h
  have Ll4 : ∀ k : Nat, ∀ (s2 : Int32) (I3 : MI), lpN k (b_X5_laysPicks_7 o0 x1) ((s2, I3)) = some p35 → GW E X (QX E X 0 0 none z J Iz) 6 7 [(0, .ref o0), (1, .int x1), (2, .int s2)] [] z J I3 0 0 := by
    intro k
    induction k with
    | zero => intro s2 I3 h; cases h
    | succ k ihl4 =>
      intro s2 I3 h
      obtain ⟨wl4, h, hwl4⟩ := lpN_s h
      unfold b_X5_laysPicks_7 at h
      try dsimp only at h
      refine g_iload_n hX (pc := 7) (i := 2) dX5_laysPicks_7 rfl 2 rfl ?_
      refine g_bipush hX (pc := 8) (v := 99) dX5_laysPicks_8 (by decide) ?_
      refine g_icmp_gt hX (pc := 10) dX5_laysPicks_10 (tgt := 167) (by decide) (fun c5 => ?_) (fun c5 => ?_)
      · replace h := ifP c5 h
        obtain rfl := Option.some.inj h
        exact Kl4 ((s2, I3)) hwl4
      · replace h := ifN c5 h
        refine g_iconst hX (pc := 13) (v := 0) dX5_laysPicks_13 (by decide) ?_
        refine g_istore_n hX (pc := 14) (i := 3) (ls' := [(0, .ref o0), (1, .int x1), (2, .int s2), (3, .int 0)]) [1, 2, 3, 0] dX5_laysPicks_14 rfl (by decide) rfl ?_
        obtain ⟨p34, hpl8, h⟩ := bnd h
        have Kl8 : ∀ ql8 : Int32 × MI, ql8 = p34 → GW E X (QX E X 0 0 none z J Iz) 6 161 [(0, .ref o0), (1, .int x1), (2, .int s2), (3, .int ql8.1)] [] z J ql8.2 0 0 := by
          intro ql8 hql8
          subst hql8
          refine g_iinc hX (pc := 161) (i := 2) (v := s2 + 1) (ls' := [(0, .ref o0), (1, .int x1), (2, .int (s2 + 1)), (3, .int ql8.1)]) 2 [1, 2, 0, 3] dX5_laysPicks_161 rfl (by rfl) (by decide) rfl ?_
          refine g_goto hX (pc := 164) (tgt := 7) dX5_laysPicks_164 (by decide) ?_
          refine g_sub (ls' := [(0, .ref o0), (1, .int x1), (2, .int (s2 + 1))]) [0, 1, 2] rfl ?_
          obtain rfl := Option.some.inj h
          exact ihl4 (s2 + 1) ql8.2 hwl4
        obtain ⟨kl8, hkl8⟩ := lp_ex hpl8
        clear hpl8 h
        have Ll8 : ∀ k : Nat, ∀ (s6 : Int32) (I7 : MI), lpN k (b_X5_laysPicks_15 o0 x1 s2) ((s6, I7)) = some p34 → GW E X (QX E X 0 0 none z J Iz) 6 15 [(0, .ref o0), (1, .int x1), (2, .int s2), (3, .int s6)] [] z J I7 0 0 := by
          intro k
          induction k with
          | zero => intro s6 I7 h; cases h
          | succ k ihl8 =>
            intro s6 I7 h
            obtain ⟨wl8, h, hwl8⟩ := lpN_s h
            unfold b_X5_laysPicks_15 at h
            try dsimp only at h
            refine g_iload_n hX (pc := 15) (i := 3) dX5_laysPicks_15 rfl 3 rfl ?_
            refine g_aload_n hX (pc := 16) (i := 0) dX5_laysPicks_16 rfl 0 rfl ?_
            refine gf5_13 hX (pc := 17) ho0 fl_X5_13 dX5_laysPicks_17 ?_
            refine g_iconst hX (pc := 20) (v := 0) dX5_laysPicks_20 (by decide) ?_
            obtain ⟨v9, e_v9, h⟩ := bnd h
            refine g_ialoadE hX (pc := 21) (s5_13 ho0).1 (s5_13 ho0).2.1 (s5_13 ho0).2.2.1 e_v9 dX5_laysPicks_21 ?_
            refine g_icmp_ge hX (pc := 22) dX5_laysPicks_22 (tgt := 161) (by decide) (fun c10 => ?_) (fun c10 => ?_)
            · replace h := ifP c10 h
              refine g_aload_n hX (pc := 25) (i := 0) dX5_laysPicks_25 rfl 0 rfl ?_
              refine gf5_19 hX (pc := 26) ho0 fl_X5_33 dX5_laysPicks_26 ?_
              refine g_iload_n hX (pc := 29) (i := 3) dX5_laysPicks_29 rfl 3 rfl ?_
              obtain ⟨v11, e_v11, h⟩ := bnd h
              refine g_ialoadE hX (pc := 30) (s5_19 ho0).1 (s5_19 ho0).2.1 (s5_19 ho0).2.2.1 e_v11 dX5_laysPicks_30 ?_
              refine g_iload_n hX (pc := 31) (i := 2) dX5_laysPicks_31 rfl 2 rfl ?_
              obtain ⟨p33, hpj13, h⟩ := bnd h
              have Kj13 : ∀ qj13 : MI, qj13 = p33 → GW E X (QX E X 0 0 none z J Iz) 6 155 [(0, .ref o0), (1, .int x1), (2, .int s2), (3, .int s6)] [] z J qj13 0 0 := by
                intro qj13 hqj13
                subst hqj13
                refine g_iinc hX (pc := 155) (i := 3) (v := s6 + 1) (ls' := [(0, .ref o0), (1, .int x1), (2, .int s2), (3, .int (s6 + 1))]) 3 [1, 2, 3, 0] dX5_laysPicks_155 rfl (by rfl) (by decide) rfl ?_
                refine g_goto hX (pc := 158) (tgt := 15) dX5_laysPicks_158 (by decide) ?_
                obtain rfl := Option.some.inj h
                exact ihl8 (s6 + 1) qj13 hwl8
              replace h := hpj13
              clear hpj13
              refine g_icmp_eq hX (pc := 32) dX5_laysPicks_32 (tgt := 38) (by decide) (fun c12 => ?_) (fun c12 => ?_)
              · replace h := ifP c12 h
                refine g_iconst hX (pc := 38) (v := 0) dX5_laysPicks_38 (by decide) ?_
                refine g_istore hX (pc := 39) (ls' := [(0, .ref o0), (1, .int x1), (2, .int s2), (3, .int s6), (4, .int 0)]) [1, 2, 3, 4, 0] dX5_laysPicks_39 (by decide) rfl ?_
                refine g_iconst hX (pc := 41) (v := 0) dX5_laysPicks_41 (by decide) ?_
                refine g_istore hX (pc := 42) (ls' := [(0, .ref o0), (1, .int x1), (2, .int s2), (3, .int s6), (4, .int 0), (5, .int 0)]) [1, 2, 3, 4, 5, 0] dX5_laysPicks_42 (by decide) rfl ?_
                obtain ⟨p23, hpl16, h⟩ := bnd h
                have Kl16 : ∀ ql16 : Int32 × Int32, ql16 = p23 → GW E X (QX E X 0 0 none z J Iz) 6 92 [(0, .ref o0), (1, .int x1), (2, .int s2), (3, .int s6), (4, .int ql16.1), (5, .int ql16.2)] [] z J I7 0 0 := by
                  intro ql16 hql16
                  subst hql16
                  refine g_iload hX (pc := 92) dX5_laysPicks_92 4 rfl ?_
                  refine g_aload_n hX (pc := 94) (i := 0) dX5_laysPicks_94 rfl 0 rfl ?_
                  refine gf5_27 hX (pc := 95) ho0 fl_X5_48 dX5_laysPicks_95 ?_
                  refine g_iload_n hX (pc := 98) (i := 3) dX5_laysPicks_98 rfl 3 rfl ?_
                  obtain ⟨v24, e_v24, h⟩ := bnd h
                  refine g_ialoadE hX (pc := 99) (s5_27 ho0).1 (s5_27 ho0).2.1 (s5_27 ho0).2.2.1 e_v24 dX5_laysPicks_99 ?_
                  obtain ⟨p28, hpj26, h⟩ := bnd h
                  have Kj26 : ∀ qj26 : Int32, qj26 = p28 → GW E X (QX E X 0 0 none z J Iz) 6 114 [(0, .ref o0), (1, .int x1), (2, .int s2), (3, .int s6), (4, .int ql16.1), (5, .int ql16.2)] [.int qj26] z J I7 0 0 := by
                    intro qj26 hqj26
                    subst hqj26
                    refine g_istore hX (pc := 114) (ls' := [(0, .ref o0), (1, .int x1), (2, .int s2), (3, .int s6), (4, .int qj26), (5, .int ql16.2)]) [1, 2, 3, 4, 0, 5] dX5_laysPicks_114 (by decide) rfl ?_
                    refine g_iload hX (pc := 116) dX5_laysPicks_116 4 rfl ?_
                    refine g_if_ne hX (pc := 118) dX5_laysPicks_118 (tgt := 124) (by decide) (fun c29 => ?_) (fun c29 => ?_)
                    · replace h := ifP c29 h
                      refine g_goto hX (pc := 121) (tgt := 155) dX5_laysPicks_121 (by decide) ?_
                      refine g_sub (ls' := [(0, .ref o0), (1, .int x1), (2, .int s2), (3, .int s6)]) [0, 1, 2, 3] rfl ?_
                      exact Kj13 I7 (Option.some.inj h)
                    · replace h := ifN c29 h
                      refine g_aload_n hX (pc := 124) (i := 0) dX5_laysPicks_124 rfl 0 rfl ?_
                      refine gf5_33 hX (pc := 125) ho0 fl_X5_64 dX5_laysPicks_125 ?_
                      refine g_aload_n hX (pc := 128) (i := 0) dX5_laysPicks_128 rfl 0 rfl ?_
                      refine gf5_35 hX (pc := 129) ho0 fl_X5_272 dX5_laysPicks_129 ?_
                      refine g_iload_n hX (pc := 132) (i := 3) dX5_laysPicks_132 rfl 3 rfl ?_
                      obtain ⟨I30, e_I30, h⟩ := bnd h
                      refine g_iastoreE hX (pc := 133) (s5_33 ho0).1 (s5_33 ho0).2.1 (s5_33 ho0).2.2.1 e_I30 dX5_laysPicks_133 ?_
                      refine g_aload_n hX (pc := 134) (i := 0) dX5_laysPicks_134 rfl 0 rfl ?_
                      refine gf5_34 hX (pc := 135) ho0 fl_X5_67 dX5_laysPicks_135 ?_
                      refine g_aload_n hX (pc := 138) (i := 0) dX5_laysPicks_138 rfl 0 rfl ?_
                      refine gf5_35 hX (pc := 139) ho0 fl_X5_272 dX5_laysPicks_139 ?_
                      refine g_iload hX (pc := 142) dX5_laysPicks_142 4 rfl ?_
                      obtain ⟨I31, e_I31, h⟩ := bnd h
                      refine g_iastoreE hX (pc := 144) (s5_34 ho0).1 (s5_34 ho0).2.1 (s5_34 ho0).2.2.1 e_I31 dX5_laysPicks_144 ?_
                      refine g_aload_n hX (pc := 145) (i := 0) dX5_laysPicks_145 rfl 0 rfl ?_
                      refine g_dup hX (pc := 146) dX5_laysPicks_146 rfl ?_
                      refine gf5_35 hX (pc := 147) ho0 fl_X5_272 dX5_laysPicks_147 ?_
                      refine g_iconst hX (pc := 150) (v := 1) dX5_laysPicks_150 (by decide) ?_
                      refine g_iadd hX (pc := 151) dX5_laysPicks_151 ?_
                      obtain ⟨I32, e_I32, h⟩ := bnd h
                      refine pf5_35 hX (pc := 152) ho0 fl_X5_272 dX5_laysPicks_152 e_I32 ?_
                      refine g_sub (ls' := [(0, .ref o0), (1, .int x1), (2, .int s2), (3, .int s6)]) [0, 1, 2, 3] rfl ?_
                      exact Kj13 I32 (Option.some.inj h)
                  replace h := hpj26
                  clear hpj26
                  refine g_icmp_ge hX (pc := 100) dX5_laysPicks_100 (tgt := 108) (by decide) (fun c25 => ?_) (fun c25 => ?_)
                  · replace h := ifP c25 h
                    refine g_iload hX (pc := 103) dX5_laysPicks_103 4 rfl ?_
                    refine g_goto hX (pc := 105) (tgt := 114) dX5_laysPicks_105 (by decide) ?_
                    exact Kj26 ql16.1 (Option.some.inj h)
                  · replace h := ifN c25 h
                    refine g_aload_n hX (pc := 108) (i := 0) dX5_laysPicks_108 rfl 0 rfl ?_
                    refine gf5_27 hX (pc := 109) ho0 fl_X5_48 dX5_laysPicks_109 ?_
                    refine g_iload_n hX (pc := 112) (i := 3) dX5_laysPicks_112 rfl 3 rfl ?_
                    obtain ⟨v27, e_v27, h⟩ := bnd h
                    refine g_ialoadE hX (pc := 113) (s5_27 ho0).1 (s5_27 ho0).2.1 (s5_27 ho0).2.2.1 e_v27 dX5_laysPicks_113 ?_
                    exact Kj26 v27 (Option.some.inj h)
                obtain ⟨kl16, hkl16⟩ := lp_ex hpl16
                clear hpl16 h
                have Ll16 : ∀ k : Nat, ∀ (s14 : Int32) (s15 : Int32), lpN k (b_X5_laysPicks_44 o0 x1 s6 I7) ((s14, s15)) = some p23 → GW E X (QX E X 0 0 none z J Iz) 6 44 [(0, .ref o0), (1, .int x1), (2, .int s2), (3, .int s6), (4, .int s14), (5, .int s15)] [] z J I7 0 0 := by
                  intro k
                  induction k with
                  | zero => intro s14 s15 h; cases h
                  | succ k ihl16 =>
                    intro s14 s15 h
                    obtain ⟨wl16, h, hwl16⟩ := lpN_s h
                    unfold b_X5_laysPicks_44 at h
                    try dsimp only at h
                    refine g_iload hX (pc := 44) dX5_laysPicks_44 5 rfl ?_
                    refine g_aload_n hX (pc := 46) (i := 0) dX5_laysPicks_46 rfl 0 rfl ?_
                    refine gf5_14 hX (pc := 47) ho0 fl_X5_17 dX5_laysPicks_47 ?_
                    refine g_iconst hX (pc := 50) (v := 0) dX5_laysPicks_50 (by decide) ?_
                    obtain ⟨v17, e_v17, h⟩ := bnd h
                    refine g_ialoadE hX (pc := 51) (s5_14 ho0).1 (s5_14 ho0).2.1 (s5_14 ho0).2.2.1 e_v17 dX5_laysPicks_51 ?_
                    refine g_icmp_ge hX (pc := 52) dX5_laysPicks_52 (tgt := 92) (by decide) (fun c18 => ?_) (fun c18 => ?_)
                    · replace h := ifP c18 h
                      refine g_iload hX (pc := 55) dX5_laysPicks_55 4 rfl ?_
                      refine g_iload_n hX (pc := 57) (i := 1) dX5_laysPicks_57 rfl 1 rfl ?_
                      refine g_iload hX (pc := 58) dX5_laysPicks_58 5 rfl ?_
                      refine g_ishr hX (pc := 60) dX5_laysPicks_60 ?_
                      refine g_iconst hX (pc := 61) (v := 1) dX5_laysPicks_61 (by decide) ?_
                      refine g_iand hX (pc := 62) dX5_laysPicks_62 ?_
                      refine g_iconst hX (pc := 63) (v := 1) dX5_laysPicks_63 (by decide) ?_
                      obtain ⟨p22, hpj20, h⟩ := bnd h
                      have Kj20 : ∀ qj20 : Int32, qj20 = p22 → GW E X (QX E X 0 0 none z J Iz) 6 83 [(0, .ref o0), (1, .int x1), (2, .int s2), (3, .int s6), (4, .int s14), (5, .int s15)] [.int qj20, .int s14] z J I7 0 0 := by
                        intro qj20 hqj20
                        subst hqj20
                        refine g_iadd hX (pc := 83) dX5_laysPicks_83 ?_
                        refine g_istore hX (pc := 84) (ls' := [(0, .ref o0), (1, .int x1), (2, .int s2), (3, .int s6), (4, .int (s14 + qj20)), (5, .int s15)]) [1, 2, 3, 4, 0, 5] dX5_laysPicks_84 (by decide) rfl ?_
                        refine g_iinc hX (pc := 86) (i := 5) (v := s15 + 1) (ls' := [(0, .ref o0), (1, .int x1), (2, .int s2), (3, .int s6), (4, .int (s14 + qj20)), (5, .int (s15 + 1))]) 5 [1, 2, 3, 4, 5, 0] dX5_laysPicks_86 rfl (by rfl) (by decide) rfl ?_
                        refine g_goto hX (pc := 89) (tgt := 44) dX5_laysPicks_89 (by decide) ?_
                        obtain rfl := Option.some.inj h
                        exact ihl16 (s14 + qj20) (s15 + 1) hwl16
                      replace h := hpj20
                      clear hpj20
                      refine g_icmp_ne hX (pc := 64) dX5_laysPicks_64 (tgt := 82) (by decide) (fun c19 => ?_) (fun c19 => ?_)
                      · replace h := ifP c19 h
                        refine g_aload_n hX (pc := 67) (i := 0) dX5_laysPicks_67 rfl 0 rfl ?_
                        refine gf5_23 hX (pc := 68) ho0 fl_X5_45 dX5_laysPicks_68 ?_
                        refine g_bipush hX (pc := 71) (v := 10) dX5_laysPicks_71 (by decide) ?_
                        refine g_iload hX (pc := 73) dX5_laysPicks_73 5 rfl ?_
                        refine g_imul hX (pc := 75) dX5_laysPicks_75 ?_
                        refine g_iload_n hX (pc := 76) (i := 3) dX5_laysPicks_76 rfl 3 rfl ?_
                        refine g_iadd hX (pc := 77) dX5_laysPicks_77 ?_
                        obtain ⟨v21, e_v21, h⟩ := bnd h
                        refine g_ialoadE hX (pc := 78) (s5_23 ho0).1 (s5_23 ho0).2.1 (s5_23 ho0).2.2.1 e_v21 dX5_laysPicks_78 ?_
                        refine g_goto hX (pc := 79) (tgt := 83) dX5_laysPicks_79 (by decide) ?_
                        exact Kj20 v21 (Option.some.inj h)
                      · replace h := ifN c19 h
                        refine g_iconst hX (pc := 82) (v := 0) dX5_laysPicks_82 (by decide) ?_
                        exact Kj20 0 (Option.some.inj h)
                    · replace h := ifN c18 h
                      obtain rfl := Option.some.inj h
                      exact Kl16 ((s14, s15)) hwl16
                exact Ll16 kl16 0 0 hkl16
              · replace h := ifN c12 h
                refine g_goto hX (pc := 35) (tgt := 155) dX5_laysPicks_35 (by decide) ?_
                exact Kj13 I7 (Option.some.inj h)
            · replace h := ifN c10 h
              obtain rfl := Option.some.inj h
              exact Kl8 ((s6, I7)) hwl8
        exact Ll8 kl8 0 I3 hkl8
  exact Ll4 kl4 0 I1 hkl4
noncomputable def f_X5_pick (o0 : Nat) (x1 : Int32) (x2 : Int32) (J : MJ) (I : MI) : Option (Int32 × MI) :=
  (wf I o0 0 0).bind fun I1 =>
  (f_X5_nextWave o0 J I1).bind fun r2 =>
  (f_X5_laysPicks o0 r2 J I1).bind fun r3 =>
  if x1 = ((-1)) then
    some ((r3 o0 35, r3))
  else
    (f_X5_within x1.toInt64 0 (((r3 o0 35) - 1).toInt64)).bind fun r5 =>
    if r5 = 0 then
      some (((-2), r3))
    else
      (f_X5_within x2.toInt64 0 1).bind fun r7 =>
      if r7 = 0 then
        some (((-2), r3))
      else
        (if x2 = 0 then
          (rd 10 (r3 (o0 + 18)) x1).bind fun v11 =>
          some v11
        else
          (rd 10 (r3 (o0 + 19)) x1).bind fun v12 =>
          some v12).bind fun (p13 : Int32) =>
        some ((p13, r3))
theorem nm_X5_pick : yX5_pick.cls ≠ "java/lang/invoke/MethodHandle" ∧ yX5_pick.cls ≠ "java/lang/invoke/VarHandle" ∧ (parseMethodDescriptor yX5_pick.desc).map (fun d => d.parameters.length) = some 2 := by decide +kernel
set_option maxRecDepth 100000 in
set_option maxHeartbeats 4000000 in
theorem ct_X5_pick {E : Ev} {d : Nat} {z : Sh} {J : MJ} {I : MI} {o0 : Nat} {x1 : Int32} {x2 : Int32} {rr : Int32} {Iz : MI} (ho0 : oX5 z o0) (h : f_X5_pick o0 x1 x2 J I = some ((rr, Iz))) : Ct E (d + 4) yX5_pick cX5_pick 3 (some .int) 0 0 [.ref o0, .int x1, .int x2] z J I (some (.int rr)) z J Iz := by
  unfold f_X5_pick at h
  refine Ct.of (own := RX5) (ls := [(0, .ref o0), (1, .int x1), (2, .int x2)]) (by decide) rfl (Nat.le_of_ble_eq_true rfl) rfl ?_
  intro X hr0 hnm hX
  refine g_aload_n hX (pc := 0) (i := 0) dX5_pick_0 rfl 0 rfl ?_
  refine g_iconst hX (pc := 1) (v := 0) dX5_pick_1 (by decide) ?_
  obtain ⟨I1, e_I1, h⟩ := bnd h
  refine pf5_0 hX (pc := 2) ho0 fl_X5_86 dX5_pick_2 e_I1 ?_
  refine g_aload_n hX (pc := 5) (i := 0) dX5_pick_5 rfl 0 rfl ?_
  refine g_aload_n hX (pc := 6) (i := 0) dX5_pick_6 rfl 0 rfl ?_
  obtain ⟨r2, e_r2, h⟩ := bnd h
  refine g_callVi hX (pc := 7) (d := d + 3) hr0 [] (c := 5) (ct_X5_nextWave (d := d + 0) ho0 e_r2) ho0.1.1 ho0.1.2 (by decide) rfl co_X5_nextWave ml_X5_269 im_X5_nextWave sl_X5_nextWave ini_X5 nm_X5_nextWave (by decide) ⟨Nat.le_refl _, Nat.le_refl _⟩ (Nat.le_refl _) (Nat.le_of_ble_eq_true rfl) rfl dX5_pick_7 ?_
  obtain ⟨r3, e_r3, h⟩ := bnd h
  refine g_callVv hX (pc := 10) (d := d + 3) hr0 [.int r2] (c := 5) (ct_X5_laysPicks (d := d + 3) ho0 e_r3) ho0.1.1 ho0.1.2 (by decide) rfl co_X5_laysPicks ml_X5_275 im_X5_laysPicks sl_X5_laysPicks ini_X5 nm_X5_laysPicks (by decide) ⟨Nat.le_refl _, Nat.le_refl _⟩ (Nat.le_refl _) (Nat.le_of_ble_eq_true rfl) rfl dX5_pick_10 ?_
  refine g_iload_n hX (pc := 13) (i := 1) dX5_pick_13 rfl 1 rfl ?_
  refine g_iconst hX (pc := 14) (v := (-1)) dX5_pick_14 (by decide) ?_
  refine g_icmp_ne hX (pc := 15) dX5_pick_15 (tgt := 23) (by decide) (fun c4 => ?_) (fun c4 => ?_)
  · replace h := ifP c4 h
    refine g_aload_n hX (pc := 18) (i := 0) dX5_pick_18 rfl 0 rfl ?_
    refine gf5_35 hX (pc := 19) ho0 fl_X5_272 dX5_pick_19 ?_
    replace h := Option.some.inj h
    obtain ⟨rfl, rfl⟩ := Prod.mk.inj h
    exact g_ireturn hX (Nat.le_refl _) (Nat.le_refl _) dX5_pick_22
  · replace h := ifN c4 h
    refine g_iload_n hX (pc := 23) (i := 1) dX5_pick_23 rfl 1 rfl ?_
    refine g_i2l hX (pc := 24) dX5_pick_24 ?_
    refine g_lconst hX (pc := 25) (v := 0) dX5_pick_25 (by decide) ?_
    refine g_aload_n hX (pc := 26) (i := 0) dX5_pick_26 rfl 0 rfl ?_
    refine gf5_35 hX (pc := 27) ho0 fl_X5_272 dX5_pick_27 ?_
    refine g_iconst hX (pc := 30) (v := 1) dX5_pick_30 (by decide) ?_
    refine g_isub hX (pc := 31) dX5_pick_31 ?_
    refine g_i2l hX (pc := 32) dX5_pick_32 ?_
    obtain ⟨r5, e_r5, h⟩ := bnd h
    refine g_callSi hX (pc := 33) (d := d + 3) hr0 [.long x1.toInt64, .long 0, .long (((r3 o0 35) - 1).toInt64)] (ct_X5_within (d := d + 3)  e_r5) co_X5_within ml_X5_123 sta_X5_within ini_X5 nm_X5_within (by decide) ⟨Nat.le_refl _, Nat.le_refl _⟩ (Nat.le_refl _) (Nat.le_of_ble_eq_true rfl) rfl dX5_pick_33 ?_
    refine g_if_eq hX (pc := 36) dX5_pick_36 (tgt := 49) (by decide) (fun c6 => ?_) (fun c6 => ?_)
    · replace h := ifP c6 h
      refine g_bipush hX (pc := 49) (v := (-2)) dX5_pick_49 (by decide) ?_
      replace h := Option.some.inj h
      obtain ⟨rfl, rfl⟩ := Prod.mk.inj h
      exact g_ireturn hX (Nat.le_refl _) (Nat.le_refl _) dX5_pick_51
    · replace h := ifN c6 h
      refine g_iload_n hX (pc := 39) (i := 2) dX5_pick_39 rfl 2 rfl ?_
      refine g_i2l hX (pc := 40) dX5_pick_40 ?_
      refine g_lconst hX (pc := 41) (v := 0) dX5_pick_41 (by decide) ?_
      refine g_lconst hX (pc := 42) (v := 1) dX5_pick_42 (by decide) ?_
      obtain ⟨r7, e_r7, h⟩ := bnd h
      refine g_callSi hX (pc := 43) (d := d + 3) hr0 [.long x2.toInt64, .long 0, .long 1] (ct_X5_within (d := d + 3)  e_r7) co_X5_within ml_X5_123 sta_X5_within ini_X5 nm_X5_within (by decide) ⟨Nat.le_refl _, Nat.le_refl _⟩ (Nat.le_refl _) (Nat.le_of_ble_eq_true rfl) rfl dX5_pick_43 ?_
      refine g_if_ne hX (pc := 46) dX5_pick_46 (tgt := 52) (by decide) (fun c8 => ?_) (fun c8 => ?_)
      · replace h := ifP c8 h
        refine g_bipush hX (pc := 49) (v := (-2)) dX5_pick_49 (by decide) ?_
        replace h := Option.some.inj h
        obtain ⟨rfl, rfl⟩ := Prod.mk.inj h
        exact g_ireturn hX (Nat.le_refl _) (Nat.le_refl _) dX5_pick_51
      · replace h := ifN c8 h
        refine g_iload_n hX (pc := 52) (i := 2) dX5_pick_52 rfl 2 rfl ?_
        obtain ⟨p13, hpj10, h⟩ := bnd h
        have Kj10 : ∀ qj10 : Int32, qj10 = p13 → GW E X (QX E X 0 0 (some (.int rr)) z J Iz) 3 71 [(0, .ref o0), (1, .int x1), (2, .int x2)] [.int qj10] z J r3 0 0 := by
          intro qj10 hqj10
          subst hqj10
          replace h := Option.some.inj h
          obtain ⟨rfl, rfl⟩ := Prod.mk.inj h
          exact g_ireturn hX (Nat.le_refl _) (Nat.le_refl _) dX5_pick_71
        replace h := hpj10
        clear hpj10
        refine g_if_ne hX (pc := 53) dX5_pick_53 (tgt := 65) (by decide) (fun c9 => ?_) (fun c9 => ?_)
        · replace h := ifP c9 h
          refine g_aload_n hX (pc := 56) (i := 0) dX5_pick_56 rfl 0 rfl ?_
          refine gf5_33 hX (pc := 57) ho0 fl_X5_64 dX5_pick_57 ?_
          refine g_iload_n hX (pc := 60) (i := 1) dX5_pick_60 rfl 1 rfl ?_
          obtain ⟨v11, e_v11, h⟩ := bnd h
          refine g_ialoadE hX (pc := 61) (s5_33 ho0).1 (s5_33 ho0).2.1 (s5_33 ho0).2.2.1 e_v11 dX5_pick_61 ?_
          refine g_goto hX (pc := 62) (tgt := 71) dX5_pick_62 (by decide) ?_
          exact Kj10 v11 (Option.some.inj h)
        · replace h := ifN c9 h
          refine g_aload_n hX (pc := 65) (i := 0) dX5_pick_65 rfl 0 rfl ?_
          refine gf5_34 hX (pc := 66) ho0 fl_X5_67 dX5_pick_66 ?_
          refine g_iload_n hX (pc := 69) (i := 1) dX5_pick_69 rfl 1 rfl ?_
          obtain ⟨v12, e_v12, h⟩ := bnd h
          refine g_ialoadE hX (pc := 70) (s5_34 ho0).1 (s5_34 ho0).2.1 (s5_34 ho0).2.2.1 e_v12 dX5_pick_70 ?_
          exact Kj10 v12 (Option.some.inj h)
noncomputable def b_X5_walkOf_6 (o0 : Nat) (I : MI) (s : Int32 × Int32 × Int32) : Option ((Int32 × Int32 × Int32) ⊕ (Int32 × Int32 × Int32)) :=
  if (I o0 35) < s.2.2 then
    some (.inr ((s.1, s.2.1, s.2.2)))
  else
    (if s.2.2 < (I o0 35) then
      (rd 10 (I (o0 + 18)) s.2.2).bind fun v8 =>
      (rd 20 (I (o0 + 8)) v8).bind fun v9 =>
      some v9
    else
      some 0).bind fun (p10 : Int32) =>
    (if s.2.1 < p10 then
      some (p10 - s.2.1)
    else
      some (s.2.1 - p10)).bind fun (p13 : Int32) =>
    some (.inl ((s.1 + p13, p10, s.2.2 + 1)))
noncomputable def f_X5_walkOf (o0 : Nat) (J : MJ) (I : MI) : Option (Int32) :=
  (lp (b_X5_walkOf_6 o0 I) ((0, 0, 0))).bind fun p14 =>
  some p14.1
theorem nm_X5_walkOf : yX5_walkOf.cls ≠ "java/lang/invoke/MethodHandle" ∧ yX5_walkOf.cls ≠ "java/lang/invoke/VarHandle" ∧ (parseMethodDescriptor yX5_walkOf.desc).map (fun d => d.parameters.length) = some 0 := by decide +kernel
set_option maxRecDepth 100000 in
set_option maxHeartbeats 4000000 in
theorem ct_X5_walkOf {E : Ev} {d : Nat} {z : Sh} {J : MJ} {I : MI} {o0 : Nat} {rr : Int32} (ho0 : oX5 z o0) (h : f_X5_walkOf o0 J I = some rr) : Ct E (d + 0) yX5_walkOf cX5_walkOf 5 (some .int) 0 0 [.ref o0] z J I (some (.int rr)) z J I := by
  unfold f_X5_walkOf at h
  refine Ct.of (own := RX5) (ls := [(0, .ref o0)]) (by decide) rfl (Nat.le_of_ble_eq_true rfl) rfl ?_
  intro X hr0 hnm hX
  refine g_iconst hX (pc := 0) (v := 0) dX5_walkOf_0 (by decide) ?_
  refine g_istore_n hX (pc := 1) (i := 1) (ls' := [(0, .ref o0), (1, .int 0)]) [1, 0] dX5_walkOf_1 rfl (by decide) rfl ?_
  refine g_iconst hX (pc := 2) (v := 0) dX5_walkOf_2 (by decide) ?_
  refine g_istore_n hX (pc := 3) (i := 2) (ls' := [(0, .ref o0), (1, .int 0), (2, .int 0)]) [1, 2, 0] dX5_walkOf_3 rfl (by decide) rfl ?_
  refine g_iconst hX (pc := 4) (v := 0) dX5_walkOf_4 (by decide) ?_
  refine g_istore_n hX (pc := 5) (i := 3) (ls' := [(0, .ref o0), (1, .int 0), (2, .int 0), (3, .int 0)]) [1, 2, 3, 0] dX5_walkOf_5 rfl (by decide) rfl ?_
  obtain ⟨p14, hpl4, h⟩ := bnd h
  have Kl4 : ∀ ql4 : Int32 × Int32 × Int32, ql4 = p14 → GW E X (QX E X 0 0 (some (.int rr)) z J I) 5 68 [(0, .ref o0), (1, .int ql4.1), (2, .int ql4.2.1), (3, .int ql4.2.2)] [] z J I 0 0 := by
    intro ql4 hql4
    subst hql4
    refine g_iload_n hX (pc := 68) (i := 1) dX5_walkOf_68 rfl 1 rfl ?_
    obtain rfl := Option.some.inj h
    exact g_ireturn hX (Nat.le_refl _) (Nat.le_refl _) dX5_walkOf_69
  obtain ⟨kl4, hkl4⟩ := lp_ex hpl4
  clear hpl4 h
  have Ll4 : ∀ k : Nat, ∀ (s1 : Int32) (s2 : Int32) (s3 : Int32), lpN k (b_X5_walkOf_6 o0 I) ((s1, s2, s3)) = some p14 → GW E X (QX E X 0 0 (some (.int rr)) z J I) 5 6 [(0, .ref o0), (1, .int s1), (2, .int s2), (3, .int s3)] [] z J I 0 0 := by
    intro k
    induction k with
    | zero => intro s1 s2 s3 h; cases h
    | succ k ihl4 =>
      intro s1 s2 s3 h
      obtain ⟨wl4, h, hwl4⟩ := lpN_s h
      unfold b_X5_walkOf_6 at h
      try dsimp only at h
      refine g_iload_n hX (pc := 6) (i := 3) dX5_walkOf_6 rfl 3 rfl ?_
      refine g_aload_n hX (pc := 7) (i := 0) dX5_walkOf_7 rfl 0 rfl ?_
      refine gf5_35 hX (pc := 8) ho0 fl_X5_272 dX5_walkOf_8 ?_
      refine g_icmp_gt hX (pc := 11) dX5_walkOf_11 (tgt := 68) (by decide) (fun c5 => ?_) (fun c5 => ?_)
      · replace h := ifP c5 h
        obtain rfl := Option.some.inj h
        exact Kl4 ((s1, s2, s3)) hwl4
      · replace h := ifN c5 h
        refine g_iload_n hX (pc := 14) (i := 3) dX5_walkOf_14 rfl 3 rfl ?_
        refine g_aload_n hX (pc := 15) (i := 0) dX5_walkOf_15 rfl 0 rfl ?_
        refine gf5_35 hX (pc := 16) ho0 fl_X5_272 dX5_walkOf_16 ?_
        obtain ⟨p10, hpj7, h⟩ := bnd h
        have Kj7 : ∀ qj7 : Int32, qj7 = p10 → GW E X (QX E X 0 0 (some (.int rr)) z J I) 5 37 [(0, .ref o0), (1, .int s1), (2, .int s2), (3, .int s3)] [.int qj7] z J I 0 0 := by
          intro qj7 hqj7
          subst hqj7
          refine g_istore hX (pc := 37) (ls' := [(0, .ref o0), (1, .int s1), (2, .int s2), (3, .int s3), (4, .int qj7)]) [1, 2, 3, 4, 0] dX5_walkOf_37 (by decide) rfl ?_
          refine g_iload_n hX (pc := 39) (i := 1) dX5_walkOf_39 rfl 1 rfl ?_
          refine g_iload hX (pc := 40) dX5_walkOf_40 4 rfl ?_
          refine g_iload_n hX (pc := 42) (i := 2) dX5_walkOf_42 rfl 2 rfl ?_
          obtain ⟨p13, hpj12, h⟩ := bnd h
          have Kj12 : ∀ qj12 : Int32, qj12 = p13 → GW E X (QX E X 0 0 (some (.int rr)) z J I) 5 57 [(0, .ref o0), (1, .int s1), (2, .int s2), (3, .int s3), (4, .int qj7)] [.int qj12, .int s1] z J I 0 0 := by
            intro qj12 hqj12
            subst hqj12
            refine g_iadd hX (pc := 57) dX5_walkOf_57 ?_
            refine g_istore_n hX (pc := 58) (i := 1) (ls' := [(0, .ref o0), (1, .int (s1 + qj12)), (2, .int s2), (3, .int s3), (4, .int qj7)]) [1, 0, 2, 3, 4] dX5_walkOf_58 rfl (by decide) rfl ?_
            refine g_iload hX (pc := 59) dX5_walkOf_59 4 rfl ?_
            refine g_istore_n hX (pc := 61) (i := 2) (ls' := [(0, .ref o0), (1, .int (s1 + qj12)), (2, .int qj7), (3, .int s3), (4, .int qj7)]) [1, 2, 0, 3, 4] dX5_walkOf_61 rfl (by decide) rfl ?_
            refine g_iinc hX (pc := 62) (i := 3) (v := s3 + 1) (ls' := [(0, .ref o0), (1, .int (s1 + qj12)), (2, .int qj7), (3, .int (s3 + 1)), (4, .int qj7)]) 3 [1, 2, 3, 0, 4] dX5_walkOf_62 rfl (by rfl) (by decide) rfl ?_
            refine g_goto hX (pc := 65) (tgt := 6) dX5_walkOf_65 (by decide) ?_
            refine g_sub (ls' := [(0, .ref o0), (1, .int (s1 + qj12)), (2, .int qj7), (3, .int (s3 + 1))]) [0, 1, 2, 3] rfl ?_
            obtain rfl := Option.some.inj h
            exact ihl4 (s1 + qj12) qj7 (s3 + 1) hwl4
          replace h := hpj12
          clear hpj12
          refine g_icmp_le hX (pc := 43) dX5_walkOf_43 (tgt := 53) (by decide) (fun c11 => ?_) (fun c11 => ?_)
          · replace h := ifP c11 h
            refine g_iload hX (pc := 46) dX5_walkOf_46 4 rfl ?_
            refine g_iload_n hX (pc := 48) (i := 2) dX5_walkOf_48 rfl 2 rfl ?_
            refine g_isub hX (pc := 49) dX5_walkOf_49 ?_
            refine g_goto hX (pc := 50) (tgt := 57) dX5_walkOf_50 (by decide) ?_
            exact Kj12 (qj7 - s2) (Option.some.inj h)
          · replace h := ifN c11 h
            refine g_iload_n hX (pc := 53) (i := 2) dX5_walkOf_53 rfl 2 rfl ?_
            refine g_iload hX (pc := 54) dX5_walkOf_54 4 rfl ?_
            refine g_isub hX (pc := 56) dX5_walkOf_56 ?_
            exact Kj12 (s2 - qj7) (Option.some.inj h)
        replace h := hpj7
        clear hpj7
        refine g_icmp_ge hX (pc := 19) dX5_walkOf_19 (tgt := 36) (by decide) (fun c6 => ?_) (fun c6 => ?_)
        · replace h := ifP c6 h
          refine g_aload_n hX (pc := 22) (i := 0) dX5_walkOf_22 rfl 0 rfl ?_
          refine gf5_19 hX (pc := 23) ho0 fl_X5_33 dX5_walkOf_23 ?_
          refine g_aload_n hX (pc := 26) (i := 0) dX5_walkOf_26 rfl 0 rfl ?_
          refine gf5_33 hX (pc := 27) ho0 fl_X5_64 dX5_walkOf_27 ?_
          refine g_iload_n hX (pc := 30) (i := 3) dX5_walkOf_30 rfl 3 rfl ?_
          obtain ⟨v8, e_v8, h⟩ := bnd h
          refine g_ialoadE hX (pc := 31) (s5_33 ho0).1 (s5_33 ho0).2.1 (s5_33 ho0).2.2.1 e_v8 dX5_walkOf_31 ?_
          obtain ⟨v9, e_v9, h⟩ := bnd h
          refine g_ialoadE hX (pc := 32) (s5_19 ho0).1 (s5_19 ho0).2.1 (s5_19 ho0).2.2.1 e_v9 dX5_walkOf_32 ?_
          refine g_goto hX (pc := 33) (tgt := 37) dX5_walkOf_33 (by decide) ?_
          exact Kj7 v9 (Option.some.inj h)
        · replace h := ifN c6 h
          refine g_iconst hX (pc := 36) (v := 0) dX5_walkOf_36 (by decide) ?_
          exact Kj7 0 (Option.some.inj h)
  exact Ll4 kl4 0 0 0 hkl4
noncomputable def f_X5_walk (o0 : Nat) (J : MJ) (I : MI) : Option (Int32 × MI) :=
  (wf I o0 0 0).bind fun I1 =>
  (f_X5_nextWave o0 J I1).bind fun r2 =>
  (f_X5_laysPicks o0 r2 J I1).bind fun r3 =>
  (f_X5_walkOf o0 J r3).bind fun r4 =>
  some ((r4, r3))
theorem nm_X5_walk : yX5_walk.cls ≠ "java/lang/invoke/MethodHandle" ∧ yX5_walk.cls ≠ "java/lang/invoke/VarHandle" ∧ (parseMethodDescriptor yX5_walk.desc).map (fun d => d.parameters.length) = some 0 := by decide +kernel
set_option maxRecDepth 100000 in
set_option maxHeartbeats 4000000 in
theorem ct_X5_walk {E : Ev} {d : Nat} {z : Sh} {J : MJ} {I : MI} {o0 : Nat} {rr : Int32} {Iz : MI} (ho0 : oX5 z o0) (h : f_X5_walk o0 J I = some ((rr, Iz))) : Ct E (d + 4) yX5_walk cX5_walk 1 (some .int) 0 0 [.ref o0] z J I (some (.int rr)) z J Iz := by
  unfold f_X5_walk at h
  refine Ct.of (own := RX5) (ls := [(0, .ref o0)]) (by decide) rfl (Nat.le_of_ble_eq_true rfl) rfl ?_
  intro X hr0 hnm hX
  refine g_aload_n hX (pc := 0) (i := 0) dX5_walk_0 rfl 0 rfl ?_
  refine g_iconst hX (pc := 1) (v := 0) dX5_walk_1 (by decide) ?_
  obtain ⟨I1, e_I1, h⟩ := bnd h
  refine pf5_0 hX (pc := 2) ho0 fl_X5_86 dX5_walk_2 e_I1 ?_
  refine g_aload_n hX (pc := 5) (i := 0) dX5_walk_5 rfl 0 rfl ?_
  refine g_aload_n hX (pc := 6) (i := 0) dX5_walk_6 rfl 0 rfl ?_
  obtain ⟨r2, e_r2, h⟩ := bnd h
  refine g_callVi hX (pc := 7) (d := d + 3) hr0 [] (c := 5) (ct_X5_nextWave (d := d + 0) ho0 e_r2) ho0.1.1 ho0.1.2 (by decide) rfl co_X5_nextWave ml_X5_269 im_X5_nextWave sl_X5_nextWave ini_X5 nm_X5_nextWave (by decide) ⟨Nat.le_refl _, Nat.le_refl _⟩ (Nat.le_refl _) (Nat.le_of_ble_eq_true rfl) rfl dX5_walk_7 ?_
  obtain ⟨r3, e_r3, h⟩ := bnd h
  refine g_callVv hX (pc := 10) (d := d + 3) hr0 [.int r2] (c := 5) (ct_X5_laysPicks (d := d + 3) ho0 e_r3) ho0.1.1 ho0.1.2 (by decide) rfl co_X5_laysPicks ml_X5_275 im_X5_laysPicks sl_X5_laysPicks ini_X5 nm_X5_laysPicks (by decide) ⟨Nat.le_refl _, Nat.le_refl _⟩ (Nat.le_refl _) (Nat.le_of_ble_eq_true rfl) rfl dX5_walk_10 ?_
  refine g_aload_n hX (pc := 13) (i := 0) dX5_walk_13 rfl 0 rfl ?_
  obtain ⟨r4, e_r4, h⟩ := bnd h
  refine g_callVi hX (pc := 14) (d := d + 3) hr0 [] (c := 5) (ct_X5_walkOf (d := d + 3) ho0 e_r4) ho0.1.1 ho0.1.2 (by decide) rfl co_X5_walkOf ml_X5_278 im_X5_walkOf sl_X5_walkOf ini_X5 nm_X5_walkOf (by decide) ⟨Nat.le_refl _, Nat.le_refl _⟩ (Nat.le_refl _) (Nat.le_of_ble_eq_true rfl) rfl dX5_walk_14 ?_
  replace h := Option.some.inj h
  obtain ⟨rfl, rfl⟩ := Prod.mk.inj h
  exact g_ireturn hX (Nat.le_refl _) (Nat.le_refl _) dX5_walk_17
