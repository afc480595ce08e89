noncomputable def f_X5_count (o0 : Nat) (x1 : Int32) (J : MJ) (I : MI) : Option (Int32 × MI) :=
  (wf I o0 0 0).bind fun I1 =>
  if x1 = 0 then
    (rd 2 (I1 (o0 + 2)) 0).bind fun v3 =>
    some ((v3, I1))
  else
    if x1 = 1 then
      (rd 2 (I1 (o0 + 3)) 0).bind fun v5 =>
      some ((v5, I1))
    else
      if x1 = 2 then
        (rd 2 (I1 (o0 + 4)) 0).bind fun v7 =>
        some ((v7, I1))
      else
        if x1 = 3 then
          (f_X5_freeHoles o0 J I1).bind fun r9 =>
          some ((r9, I1))
        else
          if x1 = 4 then
            (f_X5_waiting o0 J I1).bind fun r11 =>
            (f_X5_count1 r11).bind fun r12 =>
            some ((r12, I1))
          else
            if x1 = 5 then
              (f_X5_allLate o0 J I1).bind fun r14 =>
              some ((r14, I1))
            else
              if x1 = 6 then
                some ((I1 o0 29, I1))
              else
                if x1 = 7 then
                  some ((I1 o0 2, I1))
                else
                  if x1 = 8 then
                    (rd 2 (I1 (o0 + 5)) 0).bind fun v18 =>
                    some ((v18, I1))
                  else
                    if x1 = 9 then
                      (rd 2 (I1 (o0 + 6)) 0).bind fun v20 =>
                      some ((v20, I1))
                    else
                      some (((-1), I1))
theorem nm_X5_count : yX5_count.cls ≠ "java/lang/invoke/MethodHandle" ∧ yX5_count.cls ≠ "java/lang/invoke/VarHandle" ∧ (parseMethodDescriptor yX5_count.desc).map (fun d => d.parameters.length) = some 1 := by decide +kernel
set_option maxRecDepth 100000 in
set_option maxHeartbeats 4000000 in
theorem ct_X5_count {E : Ev} {d : Nat} {z : Sh} {J : MJ} {I : MI} {o0 : Nat} {x1 : Int32} {rr : Int32} {Iz : MI} (ho0 : oX5 z o0) (h : f_X5_count o0 x1 J I = some ((rr, Iz))) : Ct E (d + 2) yX5_count cX5_count 2 (some .int) 0 0 [.ref o0, .int x1] z J I (some (.int rr)) z J Iz := by
  unfold f_X5_count at h
  refine Ct.of (own := RX5) (ls := [(0, .ref o0), (1, .int x1)]) (by decide) rfl (Nat.le_of_ble_eq_true rfl) rfl ?_
  intro X hr0 hnm hX
  refine g_aload_n hX (pc := 0) (i := 0) dX5_count_0 rfl 0 rfl ?_
  refine g_iconst hX (pc := 1) (v := 0) dX5_count_1 (by decide) ?_
  obtain ⟨I1, e_I1, h⟩ := bnd h
  refine pf5_0 hX (pc := 2) ho0 fl_X5_86 dX5_count_2 e_I1 ?_
  refine g_iload_n hX (pc := 5) (i := 1) dX5_count_5 rfl 1 rfl ?_
  by_cases c2 : x1 = 0
  · replace h := ifP c2 h
    refine g_tableIn hX (pc := 6) (tgt := 60) (off := 54) dX5_count_6 (by rw [c2]; decide) (by rw [c2]; decide) (by rw [c2]; rfl) (by decide) ?_
    refine g_aload_n hX (pc := 60) (i := 0) dX5_count_60 rfl 0 rfl ?_
    refine gf5_13 hX (pc := 61) ho0 fl_X5_13 dX5_count_61 ?_
    refine g_iconst hX (pc := 64) (v := 0) dX5_count_64 (by decide) ?_
    obtain ⟨v3, e_v3, h⟩ := bnd h
    refine g_ialoadE hX (pc := 65) (s5_13 ho0).1 (s5_13 ho0).2.1 (s5_13 ho0).2.2.1 e_v3 dX5_count_65 ?_
    replace h := Option.some.inj h
    obtain ⟨rfl, rfl⟩ := Prod.mk.inj h
    exact g_ireturn hX (Nat.le_refl _) (Nat.le_refl _) dX5_count_66
  · replace h := ifN c2 h
    by_cases c4 : x1 = 1
    · replace h := ifP c4 h
      refine g_tableIn hX (pc := 6) (tgt := 67) (off := 61) dX5_count_6 (by rw [c4]; decide) (by rw [c4]; decide) (by rw [c4]; rfl) (by decide) ?_
      refine g_aload_n hX (pc := 67) (i := 0) dX5_count_67 rfl 0 rfl ?_
      refine gf5_14 hX (pc := 68) ho0 fl_X5_17 dX5_count_68 ?_
      refine g_iconst hX (pc := 71) (v := 0) dX5_count_71 (by decide) ?_
      obtain ⟨v5, e_v5, h⟩ := bnd h
      refine g_ialoadE hX (pc := 72) (s5_14 ho0).1 (s5_14 ho0).2.1 (s5_14 ho0).2.2.1 e_v5 dX5_count_72 ?_
      replace h := Option.some.inj h
      obtain ⟨rfl, rfl⟩ := Prod.mk.inj h
      exact g_ireturn hX (Nat.le_refl _) (Nat.le_refl _) dX5_count_73
    · replace h := ifN c4 h
      by_cases c6 : x1 = 2
      · replace h := ifP c6 h
        refine g_tableIn hX (pc := 6) (tgt := 74) (off := 68) dX5_count_6 (by rw [c6]; decide) (by rw [c6]; decide) (by rw [c6]; rfl) (by decide) ?_
        refine g_aload_n hX (pc := 74) (i := 0) dX5_count_74 rfl 0 rfl ?_
        refine gf5_15 hX (pc := 75) ho0 fl_X5_20 dX5_count_75 ?_
        refine g_iconst hX (pc := 78) (v := 0) dX5_count_78 (by decide) ?_
        obtain ⟨v7, e_v7, h⟩ := bnd h
        refine g_ialoadE hX (pc := 79) (s5_15 ho0).1 (s5_15 ho0).2.1 (s5_15 ho0).2.2.1 e_v7 dX5_count_79 ?_
        replace h := Option.some.inj h
        obtain ⟨rfl, rfl⟩ := Prod.mk.inj h
        exact g_ireturn hX (Nat.le_refl _) (Nat.le_refl _) dX5_count_80
      · replace h := ifN c6 h
        by_cases c8 : x1 = 3
        · replace h := ifP c8 h
          refine g_tableIn hX (pc := 6) (tgt := 81) (off := 75) dX5_count_6 (by rw [c8]; decide) (by rw [c8]; decide) (by rw [c8]; rfl) (by decide) ?_
          refine g_aload_n hX (pc := 81) (i := 0) dX5_count_81 rfl 0 rfl ?_
          obtain ⟨r9, e_r9, h⟩ := bnd h
          refine g_callVi hX (pc := 82) (d := d + 1) hr0 [] (c := 5) (ct_X5_freeHoles (d := d + 1) ho0 e_r9) ho0.1.1 ho0.1.2 (by decide) rfl co_X5_freeHoles ml_X5_348 im_X5_freeHoles sl_X5_freeHoles ini_X5 nm_X5_freeHoles (by decide) ⟨Nat.le_refl _, Nat.le_refl _⟩ (Nat.le_refl _) (Nat.le_of_ble_eq_true rfl) rfl dX5_count_82 ?_
          replace h := Option.some.inj h
          obtain ⟨rfl, rfl⟩ := Prod.mk.inj h
          exact g_ireturn hX (Nat.le_refl _) (Nat.le_refl _) dX5_count_85
        · replace h := ifN c8 h
          by_cases c10 : x1 = 4
          · replace h := ifP c10 h
            refine g_tableIn hX (pc := 6) (tgt := 86) (off := 80) dX5_count_6 (by rw [c10]; decide) (by rw [c10]; decide) (by rw [c10]; rfl) (by decide) ?_
            refine g_aload_n hX (pc := 86) (i := 0) dX5_count_86 rfl 0 rfl ?_
            obtain ⟨r11, e_r11, h⟩ := bnd h
            refine g_callVi hX (pc := 87) (d := d + 1) hr0 [] (c := 5) (ct_X5_waiting (d := d + 1) ho0 e_r11) ho0.1.1 ho0.1.2 (by decide) rfl co_X5_waiting ml_X5_263 im_X5_waiting sl_X5_waiting ini_X5 nm_X5_waiting (by decide) ⟨Nat.le_refl _, Nat.le_refl _⟩ (Nat.le_refl _) (Nat.le_of_ble_eq_true rfl) rfl dX5_count_87 ?_
            obtain ⟨r12, e_r12, h⟩ := bnd h
            refine g_callSi hX (pc := 90) (d := d + 1) hr0 [.int r11] (ct_X5_count1 (d := d + 1)  e_r12) co_X5_count1 ml_X5_253 sta_X5_count1 ini_X5 nm_X5_count1 (by decide) ⟨Nat.le_refl _, Nat.le_refl _⟩ (Nat.le_refl _) (Nat.le_of_ble_eq_true rfl) rfl dX5_count_90 ?_
            replace h := Option.some.inj h
            obtain ⟨rfl, rfl⟩ := Prod.mk.inj h
            exact g_ireturn hX (Nat.le_refl _) (Nat.le_refl _) dX5_count_93
          · replace h := ifN c10 h
            by_cases c13 : x1 = 5
            · replace h := ifP c13 h
              refine g_tableIn hX (pc := 6) (tgt := 94) (off := 88) dX5_count_6 (by rw [c13]; decide) (by rw [c13]; decide) (by rw [c13]; rfl) (by decide) ?_
              refine g_aload_n hX (pc := 94) (i := 0) dX5_count_94 rfl 0 rfl ?_
              obtain ⟨r14, e_r14, h⟩ := bnd h
              refine g_callVi hX (pc := 95) (d := d + 1) hr0 [] (c := 5) (ct_X5_allLate (d := d + 0) ho0 e_r14) ho0.1.1 ho0.1.2 (by decide) rfl co_X5_allLate ml_X5_351 im_X5_allLate sl_X5_allLate ini_X5 nm_X5_allLate (by decide) ⟨Nat.le_refl _, Nat.le_refl _⟩ (Nat.le_refl _) (Nat.le_of_ble_eq_true rfl) rfl dX5_count_95 ?_
              replace h := Option.some.inj h
              obtain ⟨rfl, rfl⟩ := Prod.mk.inj h
              exact g_ireturn hX (Nat.le_refl _) (Nat.le_refl _) dX5_count_98
            · replace h := ifN c13 h
              by_cases c15 : x1 = 6
              · replace h := ifP c15 h
                refine g_tableIn hX (pc := 6) (tgt := 99) (off := 93) dX5_count_6 (by rw [c15]; decide) (by rw [c15]; decide) (by rw [c15]; rfl) (by decide) ?_
                refine g_aload_n hX (pc := 99) (i := 0) dX5_count_99 rfl 0 rfl ?_
                refine gf5_29 hX (pc := 100) ho0 fl_X5_222 dX5_count_100 ?_
                replace h := Option.some.inj h
                obtain ⟨rfl, rfl⟩ := Prod.mk.inj h
                exact g_ireturn hX (Nat.le_refl _) (Nat.le_refl _) dX5_count_103
              · replace h := ifN c15 h
                by_cases c16 : x1 = 7
                · replace h := ifP c16 h
                  refine g_tableIn hX (pc := 6) (tgt := 104) (off := 98) dX5_count_6 (by rw [c16]; decide) (by rw [c16]; decide) (by rw [c16]; rfl) (by decide) ?_
                  refine g_aload_n hX (pc := 104) (i := 0) dX5_count_104 rfl 0 rfl ?_
                  refine gf5_2 hX (pc := 105) ho0 fl_X5_90 dX5_count_105 ?_
                  replace h := Option.some.inj h
                  obtain ⟨rfl, rfl⟩ := Prod.mk.inj h
                  exact g_ireturn hX (Nat.le_refl _) (Nat.le_refl _) dX5_count_108
                · replace h := ifN c16 h
                  by_cases c17 : x1 = 8
                  · replace h := ifP c17 h
                    refine g_tableIn hX (pc := 6) (tgt := 109) (off := 103) dX5_count_6 (by rw [c17]; decide) (by rw [c17]; decide) (by rw [c17]; rfl) (by decide) ?_
                    refine g_aload_n hX (pc := 109) (i := 0) dX5_count_109 rfl 0 rfl ?_
                    refine gf5_16 hX (pc := 110) ho0 fl_X5_23 dX5_count_110 ?_
                    refine g_iconst hX (pc := 113) (v := 0) dX5_count_113 (by decide) ?_
                    obtain ⟨v18, e_v18, h⟩ := bnd h
                    refine g_ialoadE hX (pc := 114) (s5_16 ho0).1 (s5_16 ho0).2.1 (s5_16 ho0).2.2.1 e_v18 dX5_count_114 ?_
                    replace h := Option.some.inj h
                    obtain ⟨rfl, rfl⟩ := Prod.mk.inj h
                    exact g_ireturn hX (Nat.le_refl _) (Nat.le_refl _) dX5_count_115
                  · replace h := ifN c17 h
                    by_cases c19 : x1 = 9
                    · replace h := ifP c19 h
                      refine g_tableIn hX (pc := 6) (tgt := 116) (off := 110) dX5_count_6 (by rw [c19]; decide) (by rw [c19]; decide) (by rw [c19]; rfl) (by decide) ?_
                      refine g_aload_n hX (pc := 116) (i := 0) dX5_count_116 rfl 0 rfl ?_
                      refine gf5_17 hX (pc := 117) ho0 fl_X5_26 dX5_count_117 ?_
                      refine g_iconst hX (pc := 120) (v := 0) dX5_count_120 (by decide) ?_
                      obtain ⟨v20, e_v20, h⟩ := bnd h
                      refine g_ialoadE hX (pc := 121) (s5_17 ho0).1 (s5_17 ho0).2.1 (s5_17 ho0).2.2.1 e_v20 dX5_count_121 ?_
                      replace h := Option.some.inj h
                      obtain ⟨rfl, rfl⟩ := Prod.mk.inj h
                      exact g_ireturn hX (Nat.le_refl _) (Nat.le_refl _) dX5_count_122
                    · replace h := ifN c19 h
                      refine g_tableOut hX (pc := 6) (tgt := 123) dX5_count_6 (by have q0 := lv_neT c2 (show (0 : Int32).toInt = 0 by decide); have q1 := lv_neT c4 (show (1 : Int32).toInt = 1 by decide); have q2 := lv_neT c6 (show (2 : Int32).toInt = 2 by decide); have q3 := lv_neT c8 (show (3 : Int32).toInt = 3 by decide); have q4 := lv_neT c10 (show (4 : Int32).toInt = 4 by decide); have q5 := lv_neT c13 (show (5 : Int32).toInt = 5 by decide); have q6 := lv_neT c15 (show (6 : Int32).toInt = 6 by decide); have q7 := lv_neT c16 (show (7 : Int32).toInt = 7 by decide); have q8 := lv_neT c17 (show (8 : Int32).toInt = 8 by decide); have q9 := lv_neT c19 (show (9 : Int32).toInt = 9 by decide); omega) (by decide) ?_
                      refine g_iconst hX (pc := 123) (v := (-1)) dX5_count_123 (by decide) ?_
                      replace h := Option.some.inj h
                      obtain ⟨rfl, rfl⟩ := Prod.mk.inj h
                      exact g_ireturn hX (Nat.le_refl _) (Nat.le_refl _) dX5_count_124
