noncomputable def f_X5_count (o0 : Nat) (x1 : Int32) (J : MJ) (I : MI) : Option (Int32 × MI) :=
  (wf I o0 0 0).bind fun I1 =>
  if x1 = 0 then
    (rd 2 (I1 (o0 + 2)) 0).bind fun v3 =>
    some ((v3, I1))
  else
    if x1 = 1 then
      (rd 2 (I1 (o0 + 3)) 0).bind fun v5 =>
      some ((v5, I1))
    else
      if x1 = 2 then
        (rd 2 (I1 (o0 + 4)) 0).bind fun v7 =>
        some ((v7, I1))
      else
        if x1 = 3 then
          (f_X5_freeHoles o0 J I1).bind fun r9 =>
          some ((r9, I1))
        else
          if x1 = 4 then
            (f_X5_waiting o0 J I1).bind fun r11 =>
            (f_X5_count1 r11).bind fun r12 =>
            some ((r12, I1))
          else
            if x1 = 5 then
              (f_X5_allLate o0 J I1).bind fun r14 =>
              some ((r14, I1))
            else
              if x1 = 6 then
                some ((I1 o0 29, I1))
              else
                if x1 = 7 then
                  some ((I1 o0 2, I1))
                else
                  if x1 = 8 then
                    (rd 2 (I1 (o0 + 5)) 0).bind fun v18 =>
                    some ((v18, I1))
                  else
                    if x1 = 9 then
                      (rd 2 (I1 (o0 + 6)) 0).bind fun v20 =>
                      some ((v20, I1))
                    else
                      some (((-1), I1))
theorem nm_X5_count : yX5_count.cls ≠ "java/lang/invoke/MethodHandle" ∧ yX5_count.cls ≠ "java/lang/invoke/VarHandle" ∧ (parseMethodDescriptor yX5_count.desc).map (fun d => d.parameters.length) = some 1 := by decide +kernel
set_option maxRecDepth 100000 in
set_option maxHeartbeats 4000000 in
theorem ct_X5_count {E : Ev} {d : Nat} {z : Sh} {J : MJ} {I : MI} {o0 : Nat} {x1 : Int32} {rr : Int32} {Iz : MI} (ho0 : oX5 z o0) (h : f_X5_count o0 x1 J I = some ((rr, Iz))) : Ct E (d + 2) yX5_count cX5_count 2 (some .int) 0 0 [.ref o0, .int x1] z J I (some (.int rr)) z J Iz := by
  unfold f_X5_count at h
  refine Ct.of (own := RX5) (ls := [(0, .ref o0), (1, .int x1)]) (by decide) rfl (Nat.le_of_ble_eq_true rfl) rfl ?_
  intro X hr0 hnm hX
  refine g_aload_n hX (pc := 0) (i := 0) dX5_count_0 rfl 0 rfl ?_
  refine g_iconst hX (pc := 1) (v := 0) dX5_count_1 (by decide) ?_
  obtain ⟨I1, e_I1, h⟩ := bnd h
  refine pf5_0 hX (pc := 2) ho0 fl_X5_86 dX5_count_2 e_I1 ?_
  refine g_iload_n hX (pc := 5) (i := 1) dX5_count_5 rfl 1 rfl ?_
  by_cases c2 : x1 = 0
  · replace h := ifP c2 h
    refine g_tableIn hX (pc := 6) (tgt := 60) (off := 54) dX5_count_6 (by rw [c2]; decide) (by rw [c2]; decide) (by rw [c2]; rfl) (by decide) ?_
    refine g_aload_n hX (pc := 60) (i := 0) dX5_count_60 rfl 0 rfl ?_
    refine gf5_13 hX (pc := 61) ho0 fl_X5_13 dX5_count_61 ?_
    refine g_iconst hX (pc := 64) (v := 0) dX5_count_64 (by decide) ?_
    obtain ⟨v3, e_v3, h⟩ := bnd h
    refine g_ialoadE hX (pc := 65) (s5_13 ho0).1 (s5_13 ho0).2.1 (s5_13 ho0).2.2.1 e_v3 dX5_count_65 ?_
    replace h := Option.some.inj h
    obtain ⟨rfl, rfl⟩ := Prod.mk.inj h
    exact g_ireturn hX (Nat.le_refl _) (Nat.le_refl _) dX5_count_66
  · replace h := ifN c2 h
    by_cases c4 : x1 = 1
    · replace h := ifP c4 h
      refine g_tableIn hX (pc := 6) (tgt := 67) (off := 61) dX5_count_6 (by rw [c4]; decide) (by rw [c4]; decide) (by rw [c4]; rfl) (by decide) ?_
      refine g_aload_n hX (pc := 67) (i := 0) dX5_count_67 rfl 0 rfl ?_
      refine gf5_14 hX (pc := 68) ho0 fl_X5_17 dX5_count_68 ?_
      refine g_iconst hX (pc := 71) (v := 0) dX5_count_71 (by decide) ?_
      obtain ⟨v5, e_v5, h⟩ := bnd h
      refine g_ialoadE hX (pc := 72) (s5_14 ho0).1 (s5_14 ho0).2.1 (s5_14 ho0).2.2.1 e_v5 dX5_count_72 ?_
      replace h := Option.some.inj h
      obtain ⟨rfl, rfl⟩ := Prod.mk.inj h
      exact g_ireturn hX (Nat.le_refl _) (Nat.le_refl _) dX5_count_73
    · replace h := ifN c4 h
      by_cases c6 : x1 = 2
      · replace h := ifP c6 h
        refine g_tableIn hX (pc := 6) (tgt := 74) (off := 68) dX5_count_6 (by rw [c6]; decide) (by rw [c6]; decide) (by rw [c6]; rfl) (by decide) ?_
        refine g_aload_n hX (pc := 74) (i := 0) dX5_count_74 rfl 0 rfl ?_
        refine gf5_15 hX (pc := 75) ho0 fl_X5_20 dX5_count_75 ?_
        refine g_iconst hX (pc := 78) (v := 0) dX5_count_78 (by decide) ?_
        obtain ⟨v7, e_v7, h⟩ := bnd h
        refine g_ialoadE hX (pc := 79) (s5_15 ho0).1 (s5_15 ho0).2.1 (s5_15 ho0).2.2.1 e_v7 dX5_count_79 ?_
        replace h := Option.some.inj h
        obtain ⟨rfl, rfl⟩ := Prod.mk.inj h
        exact g_ireturn hX (Nat.le_refl _) (Nat.le_refl _) dX5_count_80
      · replace h := ifN c6 h
        by_cases c8 : x1 = 3
        · replace h := ifP c8 h
          refine g_tableIn hX (pc := 6) (tgt := 81) (off := 75) dX5_count_6 (by rw [c8]; decide) (by rw [c8]; decide) (by rw [c8]; rfl) (by decide) ?_
          refine g_aload_n hX (pc := 81) (i := 0) dX5_count_81 rfl 0 rfl ?_
          obtain ⟨r9, e_r9, h⟩ := bnd h
          refine g_callVi hX (pc := 82) (d := d + 1) hr0 [] (c := 5) (ct_X5_freeHoles (d := d + 1) ho0 e_r9) ho0.1.1 ho0.1.2 (by decide) rfl co_X5_freeHoles ml_X5_348 im_X5_freeHoles sl_X5_freeHoles ini_X5 nm_X5_freeHoles (by decide) ⟨Nat.le_refl _, Nat.le_refl _⟩ (Nat.le_refl _) (Nat.le_of_ble_eq_true rfl) rfl dX5_count_82 ?_
          replace h := Option.some.inj h
          obtain ⟨rfl, rfl⟩ := Prod.mk.inj h
          exact g_ireturn hX (Nat.le_refl _) (Nat.le_refl _) dX5_count_85
        · replace h := ifN c8 h
          by_cases c10 : x1 = 4
          · replace h := ifP c10 h
            refine g_tableIn hX (pc := 6) (tgt := 86) (off := 80) dX5_count_6 (by rw [c10]; decide) (by rw [c10]; decide) (by rw [c10]; rfl) (by decide) ?_
            refine g_aload_n hX (pc := 86) (i := 0) dX5_count_86 rfl 0 rfl ?_
            obtain ⟨r11, e_r11, h⟩ := bnd h
            refine g_callVi hX (pc := 87) (d := d + 1) hr0 [] (c := 5) (ct_X5_waiting (d := d + 1) ho0 e_r11) ho0.1.1 ho0.1.2 (by decide) rfl co_X5_waiting ml_X5_263 im_X5_waiting sl_X5_waiting ini_X5 nm_X5_waiting (by decide) ⟨Nat.le_refl _, Nat.le_refl _⟩ (Nat.le_refl _) (Nat.le_of_ble_eq_true rfl) rfl dX5_count_87 ?_
            obtain ⟨r12, e_r12, h⟩ := bnd h
            refine g_callSi hX (pc := 90) (d := d + 1) hr0 [.int r11] (ct_X5_count1 (d := d + 1)  e_r12) co_X5_count1 ml_X5_253 sta_X5_count1 ini_X5 nm_X5_count1 (by decide) ⟨Nat.le_refl _, Nat.le_refl _⟩ (Nat.le_refl _) (Nat.le_of_ble_eq_true rfl) rfl dX5_count_90 ?_
            replace h := Option.some.inj h
            obtain ⟨rfl, rfl⟩ := Prod.mk.inj h
            exact g_ireturn hX (Nat.le_refl _) (Nat.le_refl _) dX5_count_93
          · replace h := ifN c10 h
            by_cases c13 : x1 = 5
            · replace h := ifP c13 h
              refine g_tableIn hX (pc := 6) (tgt := 94) (off := 88) dX5_count_6 (by rw [c13]; decide) (by rw [c13]; decide) (by rw [c13]; rfl) (by decide) ?_
              refine g_aload_n hX (pc := 94) (i := 0) dX5_count_94 rfl 0 rfl ?_
              obtain ⟨r14, e_r14, h⟩ := bnd h
              refine g_callVi hX (pc := 95) (d := d + 1) hr0 [] (c := 5) (ct_X5_allLate (d := d + 0) ho0 e_r14) ho0.1.1 ho0.1.2 (by decide) rfl co_X5_allLate ml_X5_351 im_X5_allLate sl_X5_allLate ini_X5 nm_X5_allLate (by decide) ⟨Nat.le_refl _, Nat.le_refl _⟩ (Nat.le_refl _) (Nat.le_of_ble_eq_true rfl) rfl dX5_count_95 ?_
              replace h := Option.some.inj h
              obtain ⟨rfl, rfl⟩ := Prod.mk.inj h
              exact g_ireturn hX (Nat.le_refl _) (Nat.le_refl _) dX5_count_98
            · replace h := ifN c13 h
              by_cases c15 : x1 = 6
              · replace h := ifP c15 h
                refine g_tableIn hX (pc := 6) (tgt := 99) (off := 93) dX5_count_6 (by rw [c15]; decide) (by rw [c15]; decide) (by rw [c15]; rfl) (by decide) ?_
                refine g_aload_n hX (pc := 99) (i := 0) dX5_count_99 rfl 0 rfl ?_
                refine gf5_29 hX (pc := 100) ho0 fl_X5_222 dX5_count_100 ?_
                replace h := Option.some.inj h
                obtain ⟨rfl, rfl⟩ := Prod.mk.inj h
                exact g_ireturn hX (Nat.le_refl _) (Nat.le_refl _) dX5_count_103
              · replace h := ifN c15 h
                by_cases c16 : x1 = 7
                · replace h := ifP c16 h
                  refine g_tableIn hX (pc := 6) (tgt := 104) (off := 98) dX5_count_6 (by rw [c16]; decide) (by rw [c16]; decide) (by rw [c16]; rfl) (by decide) ?_
                  refine g_aload_n hX (pc := 104) (i := 0) dX5_count_104 rfl 0 rfl ?_
                  refine gf5_2 hX (pc := 105) ho0 fl_X5_90 dX5_count_105 ?_
                  replace h := Option.some.inj h
                  obtain ⟨rfl, rfl⟩ := Prod.mk.inj h
                  exact g_ireturn hX (Nat.le_refl _) (Nat.le_refl _) dX5_count_108
                · replace h := ifN c16 h
                  by_cases c17 : x1 = 8
                  · replace h := ifP c17 h
                    refine g_tableIn hX (pc := 6) (tgt := 109) (off := 103) dX5_count_6 (by rw [c17]; decide) (by rw [c17]; decide) (by rw [c17]; rfl) (by decide) ?_
                    refine g_aload_n hX (pc := 109) (i := 0) dX5_count_109 rfl 0 rfl ?_
                    refine gf5_16 hX (pc := 110) ho0 fl_X5_23 dX5_count_110 ?_
                    refine g_iconst hX (pc := 113) (v := 0) dX5_count_113 (by decide) ?_
                    obtain ⟨v18, e_v18, h⟩ := bnd h
                    refine g_ialoadE hX (pc := 114) (s5_16 ho0).1 (s5_16 ho0).2.1 (s5_16 ho0).2.2.1 e_v18 dX5_count_114 ?_
                    replace h := Option.some.inj h
                    obtain ⟨rfl, rfl⟩ := Prod.mk.inj h
                    exact g_ireturn hX (Nat.le_refl _) (Nat.le_refl _) dX5_count_115
                  · replace h := ifN c17 h
                    by_cases c19 : x1 = 9
                    · replace h := ifP c19 h
                      refine g_tableIn hX (pc := 6) (tgt := 116) (off := 110) dX5_count_6 (by rw [c19]; decide) (by rw [c19]; decide) (by rw [c19]; rfl) (by decide) ?_
                      refine g_aload_n hX (pc := 116) (i := 0) dX5_count_116 rfl 0 rfl ?_
                      refine gf5_17 hX (pc := 117) ho0 fl_X5_26 dX5_count_117 ?_
                      refine g_iconst hX (pc := 120) (v := 0) dX5_count_120 (by decide) ?_
                      obtain ⟨v20, e_v20, h⟩ := bnd h
                      refine g_ialoadE hX (pc := 121) (s5_17 ho0).1 (s5_17 ho0).2.1 (s5_17 ho0).2.2.1 e_v20 dX5_count_121 ?_
                      replace h := Option.some.inj h
                      obtain ⟨rfl, rfl⟩ := Prod.mk.inj h
                      exact g_ireturn hX (Nat.le_refl _) (Nat.le_refl _) dX5_count_122
                    · replace h := ifN c19 h
                      refine g_tableOut hX (pc := 6) (tgt := 123) dX5_count_6 (by have q0 := lv_neT c2 (show (0 : Int32).toInt = 0 by decide); have q1 := lv_neT c4 (show (1 : Int32).toInt = 1 by decide); have q2 := lv_neT c6 (show (2 : Int32).toInt = 2 by decide); have q3 := lv_neT c8 (show (3 : Int32).toInt = 3 by decide); have q4 := lv_neT c10 (show (4 : Int32).toInt = 4 by decide); have q5 := lv_neT c13 (show (5 : Int32).toInt = 5 by decide); have q6 := lv_neT c15 (show (6 : Int32).toInt = 6 by decide); have q7 := lv_neT c16 (show (7 : Int32).toInt = 7 by decide); have q8 := lv_neT c17 (show (8 : Int32).toInt = 8 by decide); have q9 := lv_neT c19 (show (9 : Int32).toInt = 9 by decide); omega) (by decide) ?_
                      refine g_iconst hX (pc := 123) (v := (-1)) dX5_count_123 (by decide) ?_
                      replace h := Option.some.inj h
                      obtain ⟨rfl, rfl⟩ := Prod.mk.inj h
                      exact g_ireturn hX (Nat.le_refl _) (Nat.le_refl _) dX5_count_124
noncomputable def f_X5_init (o0 : Nat) (z : Sh) (J : MJ) (I : MI) : Option (Sh × MJ × MI) :=
  (nm (zNa z 6 600)).bind fun z2 =>
  (nm (clr 0 I (zs z))).bind fun I1 =>
  (nm (zSt z2 o0 1 (some (zs z)))).bind fun z4 =>
  (nm (zNa z4 7 2)).bind fun z7 =>
  (nm (clr 0 I1 (zs z4))).bind fun I6 =>
  (nm (zSt z7 o0 13 (some (zs z4)))).bind fun z9 =>
  (nm (zNa z9 7 2)).bind fun z12 =>
  (nm (clr 0 I6 (zs z9))).bind fun I11 =>
  (nm (zSt z12 o0 14 (some (zs z9)))).bind fun z14 =>
  (nm (zNa z14 7 2)).bind fun z17 =>
  (nm (clr 0 I11 (zs z14))).bind fun I16 =>
  (nm (zSt z17 o0 15 (some (zs z14)))).bind fun z19 =>
  (nm (zNa z19 7 2)).bind fun z22 =>
  (nm (clr 0 I16 (zs z19))).bind fun I21 =>
  (nm (zSt z22 o0 16 (some (zs z19)))).bind fun z24 =>
  (nm (zNa z24 7 2)).bind fun z27 =>
  (nm (clr 0 I21 (zs z24))).bind fun I26 =>
  (nm (zSt z27 o0 17 (some (zs z24)))).bind fun z29 =>
  (nm (zNa z29 8 20)).bind fun z32 =>
  (nm (clr 0 J (zs z29))).bind fun J31 =>
  (nm (zSt z32 o0 18 (some (zs z29)))).bind fun z34 =>
  (nm (zNa z34 7 20)).bind fun z37 =>
  (nm (clr 0 I26 (zs z34))).bind fun I36 =>
  (nm (zSt z37 o0 19 (some (zs z34)))).bind fun z39 =>
  (nm (zNa z39 7 20)).bind fun z42 =>
  (nm (clr 0 I36 (zs z39))).bind fun I41 =>
  (nm (zSt z42 o0 20 (some (zs z39)))).bind fun z44 =>
  (nm (zNa z44 8 32)).bind fun z47 =>
  (nm (clr 0 J31 (zs z44))).bind fun J46 =>
  (nm (zSt z47 o0 21 (some (zs z44)))).bind fun z49 =>
  (nm (zNa z49 7 32)).bind fun z52 =>
  (nm (clr 0 I41 (zs z49))).bind fun I51 =>
  (nm (zSt z52 o0 22 (some (zs z49)))).bind fun z54 =>
  (nm (zNa z54 7 320)).bind fun z57 =>
  (nm (clr 0 I51 (zs z54))).bind fun I56 =>
  (nm (zSt z57 o0 23 (some (zs z54)))).bind fun z59 =>
  (nm (zNa z59 7 2117)).bind fun z62 =>
  (nm (clr 0 I56 (zs z59))).bind fun I61 =>
  (nm (zSt z62 o0 27 (some (zs z59)))).bind fun z64 =>
  (nm (zNa z64 7 25404)).bind fun z67 =>
  (nm (clr 0 I61 (zs z64))).bind fun I66 =>
  (nm (zSt z67 o0 28 (some (zs z64)))).bind fun z69 =>
  (nm (zNa z69 7 4234)).bind fun z72 =>
  (nm (clr 0 I66 (zs z69))).bind fun I71 =>
  (nm (zSt z72 o0 30 (some (zs z69)))).bind fun z74 =>
  (nm (zNa z74 9 2)).bind fun z77 =>
  (nm (clr 0 I71 (zs z74))).bind fun I76 =>
  (nm (zSt z77 o0 31 (some (zs z74)))).bind fun z79 =>
  (nm (zNa z79 7 2117)).bind fun z82 =>
  (nm (clr 0 I76 (zs z79))).bind fun I81 =>
  (nm (zSt z82 o0 32 (some (zs z79)))).bind fun z84 =>
  (nm (zNa z84 7 10)).bind fun z87 =>
  (nm (clr 0 I81 (zs z84))).bind fun I86 =>
  (nm (zSt z87 o0 33 (some (zs z84)))).bind fun z89 =>
  (nm (zNa z89 7 10)).bind fun z92 =>
  (nm (clr 0 I86 (zs z89))).bind fun I91 =>
  (nm (zSt z92 o0 34 (some (zs z89)))).bind fun z94 =>
  (nm (zNa z94 7 16)).bind fun z97 =>
  (nm (clr 0 I91 (zs z94))).bind fun I96 =>
  (nm (zSt z97 o0 36 (some (zs z94)))).bind fun z99 =>
  (nm (zNa z99 7 10)).bind fun z102 =>
  (nm (clr 0 I96 (zs z99))).bind fun I101 =>
  (nm (zSt z102 o0 37 (some (zs z99)))).bind fun z104 =>
  (nm (zNa z104 7 10)).bind fun z107 =>
  (nm (clr 0 I101 (zs z104))).bind fun I106 =>
  (nm (zSt z107 o0 38 (some (zs z104)))).bind fun z109 =>
  (gd (oX5 z109 o0)).bind fun g111 =>
  (f_X5_plain o0 0 J46 I106).bind fun r112 =>
  (f_X5_empties o0 J46 r112).bind fun r113 =>
  some ((z109, J46, r113))
theorem nm_X5_init : yX5_init.cls ≠ "java/lang/invoke/MethodHandle" ∧ yX5_init.cls ≠ "java/lang/invoke/VarHandle" ∧ (parseMethodDescriptor yX5_init.desc).map (fun d => d.parameters.length) = some 0 := by decide +kernel
set_option maxRecDepth 100000 in
set_option maxHeartbeats 4000000 in
theorem ct_X5_init {E : Ev} {d : Nat} {z : Sh} {J : MJ} {I : MI} {o0 : Nat} {zz : Sh} {Jz : MJ} {Iz : MI} (ho0 : raw z o0 5) (h : f_X5_init o0 z J I = some ((zz, Jz, Iz))) : Ct E (d + 1) yX5_init cX5_init 1 none 22 34984 [.ref o0] z J I none zz Jz Iz := by
  unfold f_X5_init at h
  refine Ct.of (own := RX5) (ls := [(0, .ref o0)]) (by decide) rfl (Nat.le_of_ble_eq_true rfl) rfl ?_
  intro X hr0 hnm hX
  refine g_aload_n hX (pc := 0) (i := 0) dX5_init_0 rfl 0 rfl ?_
  refine g_objInit hX (pc := 1) (d := d + 0) hr0 ml_X5_1 im_java_lang_Object__init__3 co_objInit (by exact Nat.le_of_ble_eq_true rfl) dX5_init_1 ?_
  refine g_aload_n hX (pc := 4) (i := 0) dX5_init_4 rfl 0 rfl ?_
  refine g_sipush hX (pc := 5) (v := 600) dX5_init_5 (by decide) ?_
  refine g_newA6 hX (pc := 8) hr0 (N := 600) (by decide) (by decide) (by decide) (by decide) dX5_init_8 ?_
  obtain ⟨z2, e_z2, h⟩ := bnd h
  refine g_nmz e_z2 ?_
  have hu3 := raw.nm e_z2 (ho0.na 6 600)
  obtain ⟨I1, e_I1, h⟩ := bnd h
  refine g_nmM e_I1 ?_
  refine pr5_1 hX (pc := 10) hu3 fl_X5_7 hnm rfl dX5_init_10 ?_
  obtain ⟨z4, e_z4, h⟩ := bnd h
  refine g_nmz e_z4 ?_
  have hu5 := raw.nm e_z4 (hu3.st o0 1 (some (zs z)))
  refine g_aload_n hX (pc := 13) (i := 0) dX5_init_13 rfl 0 rfl ?_
  refine g_iconst hX (pc := 14) (v := 2) dX5_init_14 (by decide) ?_
  refine g_newA7 hX (pc := 15) hr0 (N := 2) (by decide) (by decide) (by decide) (by decide) dX5_init_15 ?_
  obtain ⟨z7, e_z7, h⟩ := bnd h
  refine g_nmz e_z7 ?_
  have hu8 := raw.nm e_z7 (hu5.na 7 2)
  obtain ⟨I6, e_I6, h⟩ := bnd h
  refine g_nmM e_I6 ?_
  refine pr5_13 hX (pc := 17) hu8 fl_X5_13 hnm rfl dX5_init_17 ?_
  obtain ⟨z9, e_z9, h⟩ := bnd h
  refine g_nmz e_z9 ?_
  have hu10 := raw.nm e_z9 (hu8.st o0 13 (some (zs z4)))
  refine g_aload_n hX (pc := 20) (i := 0) dX5_init_20 rfl 0 rfl ?_
  refine g_iconst hX (pc := 21) (v := 2) dX5_init_21 (by decide) ?_
  refine g_newA7 hX (pc := 22) hr0 (N := 2) (by decide) (by decide) (by decide) (by decide) dX5_init_22 ?_
  obtain ⟨z12, e_z12, h⟩ := bnd h
  refine g_nmz e_z12 ?_
  have hu13 := raw.nm e_z12 (hu10.na 7 2)
  obtain ⟨I11, e_I11, h⟩ := bnd h
  refine g_nmM e_I11 ?_
  refine pr5_14 hX (pc := 24) hu13 fl_X5_17 hnm rfl dX5_init_24 ?_
  obtain ⟨z14, e_z14, h⟩ := bnd h
  refine g_nmz e_z14 ?_
  have hu15 := raw.nm e_z14 (hu13.st o0 14 (some (zs z9)))
  refine g_aload_n hX (pc := 27) (i := 0) dX5_init_27 rfl 0 rfl ?_
  refine g_iconst hX (pc := 28) (v := 2) dX5_init_28 (by decide) ?_
  refine g_newA7 hX (pc := 29) hr0 (N := 2) (by decide) (by decide) (by decide) (by decide) dX5_init_29 ?_
  obtain ⟨z17, e_z17, h⟩ := bnd h
  refine g_nmz e_z17 ?_
  have hu18 := raw.nm e_z17 (hu15.na 7 2)
  obtain ⟨I16, e_I16, h⟩ := bnd h
  refine g_nmM e_I16 ?_
  refine pr5_15 hX (pc := 31) hu18 fl_X5_20 hnm rfl dX5_init_31 ?_
  obtain ⟨z19, e_z19, h⟩ := bnd h
  refine g_nmz e_z19 ?_
  have hu20 := raw.nm e_z19 (hu18.st o0 15 (some (zs z14)))
  refine g_aload_n hX (pc := 34) (i := 0) dX5_init_34 rfl 0 rfl ?_
  refine g_iconst hX (pc := 35) (v := 2) dX5_init_35 (by decide) ?_
  refine g_newA7 hX (pc := 36) hr0 (N := 2) (by decide) (by decide) (by decide) (by decide) dX5_init_36 ?_
  obtain ⟨z22, e_z22, h⟩ := bnd h
  refine g_nmz e_z22 ?_
  have hu23 := raw.nm e_z22 (hu20.na 7 2)
  obtain ⟨I21, e_I21, h⟩ := bnd h
  refine g_nmM e_I21 ?_
  refine pr5_16 hX (pc := 38) hu23 fl_X5_23 hnm rfl dX5_init_38 ?_
  obtain ⟨z24, e_z24, h⟩ := bnd h
  refine g_nmz e_z24 ?_
  have hu25 := raw.nm e_z24 (hu23.st o0 16 (some (zs z19)))
  refine g_aload_n hX (pc := 41) (i := 0) dX5_init_41 rfl 0 rfl ?_
  refine g_iconst hX (pc := 42) (v := 2) dX5_init_42 (by decide) ?_
  refine g_newA7 hX (pc := 43) hr0 (N := 2) (by decide) (by decide) (by decide) (by decide) dX5_init_43 ?_
  obtain ⟨z27, e_z27, h⟩ := bnd h
  refine g_nmz e_z27 ?_
  have hu28 := raw.nm e_z27 (hu25.na 7 2)
  obtain ⟨I26, e_I26, h⟩ := bnd h
  refine g_nmM e_I26 ?_
  refine pr5_17 hX (pc := 45) hu28 fl_X5_26 hnm rfl dX5_init_45 ?_
  obtain ⟨z29, e_z29, h⟩ := bnd h
  refine g_nmz e_z29 ?_
  have hu30 := raw.nm e_z29 (hu28.st o0 17 (some (zs z24)))
  refine g_aload_n hX (pc := 48) (i := 0) dX5_init_48 rfl 0 rfl ?_
  refine g_bipush hX (pc := 49) (v := 20) dX5_init_49 (by decide) ?_
  refine g_newA8 hX (pc := 51) hr0 (N := 20) (by decide) (by decide) (by decide) (by decide) dX5_init_51 ?_
  obtain ⟨z32, e_z32, h⟩ := bnd h
  refine g_nmz e_z32 ?_
  have hu33 := raw.nm e_z32 (hu30.na 8 20)
  obtain ⟨J31, e_J31, h⟩ := bnd h
  refine g_nmMJ e_J31 ?_
  refine pr5_18 hX (pc := 53) hu33 fl_X5_29 hnm rfl dX5_init_53 ?_
  obtain ⟨z34, e_z34, h⟩ := bnd h
  refine g_nmz e_z34 ?_
  have hu35 := raw.nm e_z34 (hu33.st o0 18 (some (zs z29)))
  refine g_aload_n hX (pc := 56) (i := 0) dX5_init_56 rfl 0 rfl ?_
  refine g_bipush hX (pc := 57) (v := 20) dX5_init_57 (by decide) ?_
  refine g_newA7 hX (pc := 59) hr0 (N := 20) (by decide) (by decide) (by decide) (by decide) dX5_init_59 ?_
  obtain ⟨z37, e_z37, h⟩ := bnd h
  refine g_nmz e_z37 ?_
  have hu38 := raw.nm e_z37 (hu35.na 7 20)
  obtain ⟨I36, e_I36, h⟩ := bnd h
  refine g_nmM e_I36 ?_
  refine pr5_19 hX (pc := 61) hu38 fl_X5_33 hnm rfl dX5_init_61 ?_
  obtain ⟨z39, e_z39, h⟩ := bnd h
  refine g_nmz e_z39 ?_
  have hu40 := raw.nm e_z39 (hu38.st o0 19 (some (zs z34)))
  refine g_aload_n hX (pc := 64) (i := 0) dX5_init_64 rfl 0 rfl ?_
  refine g_bipush hX (pc := 65) (v := 20) dX5_init_65 (by decide) ?_
  refine g_newA7 hX (pc := 67) hr0 (N := 20) (by decide) (by decide) (by decide) (by decide) dX5_init_67 ?_
  obtain ⟨z42, e_z42, h⟩ := bnd h
  refine g_nmz e_z42 ?_
  have hu43 := raw.nm e_z42 (hu40.na 7 20)
  obtain ⟨I41, e_I41, h⟩ := bnd h
  refine g_nmM e_I41 ?_
  refine pr5_20 hX (pc := 69) hu43 fl_X5_36 hnm rfl dX5_init_69 ?_
  obtain ⟨z44, e_z44, h⟩ := bnd h
  refine g_nmz e_z44 ?_
  have hu45 := raw.nm e_z44 (hu43.st o0 20 (some (zs z39)))
  refine g_aload_n hX (pc := 72) (i := 0) dX5_init_72 rfl 0 rfl ?_
  refine g_bipush hX (pc := 73) (v := 32) dX5_init_73 (by decide) ?_
  refine g_newA8 hX (pc := 75) hr0 (N := 32) (by decide) (by decide) (by decide) (by decide) dX5_init_75 ?_
  obtain ⟨z47, e_z47, h⟩ := bnd h
  refine g_nmz e_z47 ?_
  have hu48 := raw.nm e_z47 (hu45.na 8 32)
  obtain ⟨J46, e_J46, h⟩ := bnd h
  refine g_nmMJ e_J46 ?_
  refine pr5_21 hX (pc := 77) hu48 fl_X5_39 hnm rfl dX5_init_77 ?_
  obtain ⟨z49, e_z49, h⟩ := bnd h
  refine g_nmz e_z49 ?_
  have hu50 := raw.nm e_z49 (hu48.st o0 21 (some (zs z44)))
  refine g_aload_n hX (pc := 80) (i := 0) dX5_init_80 rfl 0 rfl ?_
  refine g_bipush hX (pc := 81) (v := 32) dX5_init_81 (by decide) ?_
  refine g_newA7 hX (pc := 83) hr0 (N := 32) (by decide) (by decide) (by decide) (by decide) dX5_init_83 ?_
  obtain ⟨z52, e_z52, h⟩ := bnd h
  refine g_nmz e_z52 ?_
  have hu53 := raw.nm e_z52 (hu50.na 7 32)
  obtain ⟨I51, e_I51, h⟩ := bnd h
  refine g_nmM e_I51 ?_
  refine pr5_22 hX (pc := 85) hu53 fl_X5_42 hnm rfl dX5_init_85 ?_
  obtain ⟨z54, e_z54, h⟩ := bnd h
  refine g_nmz e_z54 ?_
  have hu55 := raw.nm e_z54 (hu53.st o0 22 (some (zs z49)))
  refine g_aload_n hX (pc := 88) (i := 0) dX5_init_88 rfl 0 rfl ?_
  refine g_sipush hX (pc := 89) (v := 320) dX5_init_89 (by decide) ?_
  refine g_newA7 hX (pc := 92) hr0 (N := 320) (by decide) (by decide) (by decide) (by decide) dX5_init_92 ?_
  obtain ⟨z57, e_z57, h⟩ := bnd h
  refine g_nmz e_z57 ?_
  have hu58 := raw.nm e_z57 (hu55.na 7 320)
  obtain ⟨I56, e_I56, h⟩ := bnd h
  refine g_nmM e_I56 ?_
  refine pr5_23 hX (pc := 94) hu58 fl_X5_45 hnm rfl dX5_init_94 ?_
  obtain ⟨z59, e_z59, h⟩ := bnd h
  refine g_nmz e_z59 ?_
  have hu60 := raw.nm e_z59 (hu58.st o0 23 (some (zs z54)))
  refine g_aload_n hX (pc := 97) (i := 0) dX5_init_97 rfl 0 rfl ?_
  refine g_sipush hX (pc := 98) (v := 2117) dX5_init_98 (by decide) ?_
  refine g_newA7 hX (pc := 101) hr0 (N := 2117) (by decide) (by decide) (by decide) (by decide) dX5_init_101 ?_
  obtain ⟨z62, e_z62, h⟩ := bnd h
  refine g_nmz e_z62 ?_
  have hu63 := raw.nm e_z62 (hu60.na 7 2117)
  obtain ⟨I61, e_I61, h⟩ := bnd h
  refine g_nmM e_I61 ?_
  refine pr5_27 hX (pc := 103) hu63 fl_X5_48 hnm rfl dX5_init_103 ?_
  obtain ⟨z64, e_z64, h⟩ := bnd h
  refine g_nmz e_z64 ?_
  have hu65 := raw.nm e_z64 (hu63.st o0 27 (some (zs z59)))
  refine g_aload_n hX (pc := 106) (i := 0) dX5_init_106 rfl 0 rfl ?_
  refine g_sipush hX (pc := 107) (v := 25404) dX5_init_107 (by decide) ?_
  refine g_newA7 hX (pc := 110) hr0 (N := 25404) (by decide) (by decide) (by decide) (by decide) dX5_init_110 ?_
  obtain ⟨z67, e_z67, h⟩ := bnd h
  refine g_nmz e_z67 ?_
  have hu68 := raw.nm e_z67 (hu65.na 7 25404)
  obtain ⟨I66, e_I66, h⟩ := bnd h
  refine g_nmM e_I66 ?_
  refine pr5_28 hX (pc := 112) hu68 fl_X5_51 hnm rfl dX5_init_112 ?_
  obtain ⟨z69, e_z69, h⟩ := bnd h
  refine g_nmz e_z69 ?_
  have hu70 := raw.nm e_z69 (hu68.st o0 28 (some (zs z64)))
  refine g_aload_n hX (pc := 115) (i := 0) dX5_init_115 rfl 0 rfl ?_
  refine g_sipush hX (pc := 116) (v := 4234) dX5_init_116 (by decide) ?_
  refine g_newA7 hX (pc := 119) hr0 (N := 4234) (by decide) (by decide) (by decide) (by decide) dX5_init_119 ?_
  obtain ⟨z72, e_z72, h⟩ := bnd h
  refine g_nmz e_z72 ?_
  have hu73 := raw.nm e_z72 (hu70.na 7 4234)
  obtain ⟨I71, e_I71, h⟩ := bnd h
  refine g_nmM e_I71 ?_
  refine pr5_30 hX (pc := 121) hu73 fl_X5_54 hnm rfl dX5_init_121 ?_
  obtain ⟨z74, e_z74, h⟩ := bnd h
  refine g_nmz e_z74 ?_
  have hu75 := raw.nm e_z74 (hu73.st o0 30 (some (zs z69)))
  refine g_aload_n hX (pc := 124) (i := 0) dX5_init_124 rfl 0 rfl ?_
  refine g_iconst hX (pc := 125) (v := 2) dX5_init_125 (by decide) ?_
  refine g_newA9 hX (pc := 126) hr0 (N := 2) (by decide) (by decide) (by decide) (by decide) dX5_init_126 ?_
  obtain ⟨z77, e_z77, h⟩ := bnd h
  refine g_nmz e_z77 ?_
  have hu78 := raw.nm e_z77 (hu75.na 9 2)
  obtain ⟨I76, e_I76, h⟩ := bnd h
  refine g_nmM e_I76 ?_
  refine pr5_31 hX (pc := 128) hu78 fl_X5_57 hnm rfl dX5_init_128 ?_
  obtain ⟨z79, e_z79, h⟩ := bnd h
  refine g_nmz e_z79 ?_
  have hu80 := raw.nm e_z79 (hu78.st o0 31 (some (zs z74)))
  refine g_aload_n hX (pc := 131) (i := 0) dX5_init_131 rfl 0 rfl ?_
  refine g_sipush hX (pc := 132) (v := 2117) dX5_init_132 (by decide) ?_
  refine g_newA7 hX (pc := 135) hr0 (N := 2117) (by decide) (by decide) (by decide) (by decide) dX5_init_135 ?_
  obtain ⟨z82, e_z82, h⟩ := bnd h
  refine g_nmz e_z82 ?_
  have hu83 := raw.nm e_z82 (hu80.na 7 2117)
  obtain ⟨I81, e_I81, h⟩ := bnd h
  refine g_nmM e_I81 ?_
  refine pr5_32 hX (pc := 137) hu83 fl_X5_61 hnm rfl dX5_init_137 ?_
  obtain ⟨z84, e_z84, h⟩ := bnd h
  refine g_nmz e_z84 ?_
  have hu85 := raw.nm e_z84 (hu83.st o0 32 (some (zs z79)))
  refine g_aload_n hX (pc := 140) (i := 0) dX5_init_140 rfl 0 rfl ?_
  refine g_bipush hX (pc := 141) (v := 10) dX5_init_141 (by decide) ?_
  refine g_newA7 hX (pc := 143) hr0 (N := 10) (by decide) (by decide) (by decide) (by decide) dX5_init_143 ?_
  obtain ⟨z87, e_z87, h⟩ := bnd h
  refine g_nmz e_z87 ?_
  have hu88 := raw.nm e_z87 (hu85.na 7 10)
  obtain ⟨I86, e_I86, h⟩ := bnd h
  refine g_nmM e_I86 ?_
  refine pr5_33 hX (pc := 145) hu88 fl_X5_64 hnm rfl dX5_init_145 ?_
  obtain ⟨z89, e_z89, h⟩ := bnd h
  refine g_nmz e_z89 ?_
  have hu90 := raw.nm e_z89 (hu88.st o0 33 (some (zs z84)))
  refine g_aload_n hX (pc := 148) (i := 0) dX5_init_148 rfl 0 rfl ?_
  refine g_bipush hX (pc := 149) (v := 10) dX5_init_149 (by decide) ?_
  refine g_newA7 hX (pc := 151) hr0 (N := 10) (by decide) (by decide) (by decide) (by decide) dX5_init_151 ?_
  obtain ⟨z92, e_z92, h⟩ := bnd h
  refine g_nmz e_z92 ?_
  have hu93 := raw.nm e_z92 (hu90.na 7 10)
  obtain ⟨I91, e_I91, h⟩ := bnd h
  refine g_nmM e_I91 ?_
  refine pr5_34 hX (pc := 153) hu93 fl_X5_67 hnm rfl dX5_init_153 ?_
  obtain ⟨z94, e_z94, h⟩ := bnd h
  refine g_nmz e_z94 ?_
  have hu95 := raw.nm e_z94 (hu93.st o0 34 (some (zs z89)))
  refine g_aload_n hX (pc := 156) (i := 0) dX5_init_156 rfl 0 rfl ?_
  refine g_bipush hX (pc := 157) (v := 16) dX5_init_157 (by decide) ?_
  refine g_newA7 hX (pc := 159) hr0 (N := 16) (by decide) (by decide) (by decide) (by decide) dX5_init_159 ?_
  obtain ⟨z97, e_z97, h⟩ := bnd h
  refine g_nmz e_z97 ?_
  have hu98 := raw.nm e_z97 (hu95.na 7 16)
  obtain ⟨I96, e_I96, h⟩ := bnd h
  refine g_nmM e_I96 ?_
  refine pr5_36 hX (pc := 161) hu98 fl_X5_70 hnm rfl dX5_init_161 ?_
  obtain ⟨z99, e_z99, h⟩ := bnd h
  refine g_nmz e_z99 ?_
  have hu100 := raw.nm e_z99 (hu98.st o0 36 (some (zs z94)))
  refine g_aload_n hX (pc := 164) (i := 0) dX5_init_164 rfl 0 rfl ?_
  refine g_bipush hX (pc := 165) (v := 10) dX5_init_165 (by decide) ?_
  refine g_newA7 hX (pc := 167) hr0 (N := 10) (by decide) (by decide) (by decide) (by decide) dX5_init_167 ?_
  obtain ⟨z102, e_z102, h⟩ := bnd h
  refine g_nmz e_z102 ?_
  have hu103 := raw.nm e_z102 (hu100.na 7 10)
  obtain ⟨I101, e_I101, h⟩ := bnd h
  refine g_nmM e_I101 ?_
  refine pr5_37 hX (pc := 169) hu103 fl_X5_73 hnm rfl dX5_init_169 ?_
  obtain ⟨z104, e_z104, h⟩ := bnd h
  refine g_nmz e_z104 ?_
  have hu105 := raw.nm e_z104 (hu103.st o0 37 (some (zs z99)))
  refine g_aload_n hX (pc := 172) (i := 0) dX5_init_172 rfl 0 rfl ?_
  refine g_bipush hX (pc := 173) (v := 10) dX5_init_173 (by decide) ?_
  refine g_newA7 hX (pc := 175) hr0 (N := 10) (by decide) (by decide) (by decide) (by decide) dX5_init_175 ?_
  obtain ⟨z107, e_z107, h⟩ := bnd h
  refine g_nmz e_z107 ?_
  have hu108 := raw.nm e_z107 (hu105.na 7 10)
  obtain ⟨I106, e_I106, h⟩ := bnd h
  refine g_nmM e_I106 ?_
  refine pr5_38 hX (pc := 177) hu108 fl_X5_76 hnm rfl dX5_init_177 ?_
  obtain ⟨z109, e_z109, h⟩ := bnd h
  refine g_nmz e_z109 ?_
  have hu110 := raw.nm e_z109 (hu108.st o0 38 (some (zs z104)))
  refine g_aload_n hX (pc := 180) (i := 0) dX5_init_180 rfl 0 rfl ?_
  refine g_iconst hX (pc := 181) (v := 0) dX5_init_181 (by decide) ?_
  obtain ⟨g111, e_g111, h⟩ := bnd h
  obtain ⟨r112, e_r112, h⟩ := bnd h
  refine g_callVv hX (pc := 182) (d := d + 0) hr0 [.int 0] (c := 5) (ct_X5_plain (d := d + 0) (gd_some e_g111) e_r112) (gd_some e_g111).1.1 (gd_some e_g111).1.2 (by decide) rfl co_X5_plain ml_X5_79 im_X5_plain sl_X5_plain ini_X5 nm_X5_plain (by decide) (by decide) (Nat.le_refl _) (Nat.le_of_ble_eq_true rfl) rfl dX5_init_182 ?_
  refine g_aload_n hX (pc := 185) (i := 0) dX5_init_185 rfl 0 rfl ?_
  obtain ⟨r113, e_r113, h⟩ := bnd h
  refine g_callVv hX (pc := 186) (d := d + 0) hr0 [] (c := 5) (ct_X5_empties (d := d + 0) (gd_some e_g111) e_r113) (gd_some e_g111).1.1 (gd_some e_g111).1.2 (by decide) rfl co_X5_empties ml_X5_83 im_X5_empties sl_X5_empties ini_X5 nm_X5_empties (by decide) (by decide) (Nat.le_refl _) (Nat.le_of_ble_eq_true rfl) rfl dX5_init_186 ?_
  replace h := Option.some.inj h
  obtain ⟨rfl, hT0⟩ := Prod.mk.inj h
  obtain ⟨rfl, rfl⟩ := Prod.mk.inj hT0
  exact g_return hX (by decide) (by decide) dX5_init_189
