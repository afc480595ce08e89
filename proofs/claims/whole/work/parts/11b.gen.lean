noncomputable def f_X5_lineHere (o0 : Nat) (J : MJ) (I : MI) : Option (Int32 × MJ × MI) :=
  (f_X5_is o0 0 J I).bind fun r1 =>
  (if r1 = 0 then
    (f_X5_is o0 1 J I).bind fun r4 =>
    if r4 = 0 then
      (f_X5_is o0 2 J I).bind fun r6 =>
      if r6 = 0 then
        (f_X5_is o0 3 J I).bind fun r8 =>
        if r8 = 0 then
          some ((-1))
        else
          some 3
      else
        some 2
    else
      some 1
  else
    some 0).bind fun (p10 : Int32) =>
  (if p10 < 0 then
    some 0
  else
    some 1).bind fun (p13 : Int32) =>
  (f_X5_must o0 p13 1 J I).bind fun r14 =>
  if r14.1 = 0 then
    some ((0, J, r14.2))
  else
    (if p10 = 0 then
      if (r14.2 o0 24) = 0 then
        some 1
      else
        some 0
    else
      some 1).bind fun (p19 : Int32) =>
    (f_X5_must o0 p19 2 J r14.2).bind fun r20 =>
    if r20.1 = 0 then
      some ((0, J, r20.2))
    else
      (if p10 = 1 then
        if (r20.2 o0 25) = 0 then
          some 1
        else
          some 0
      else
        some 1).bind fun (p25 : Int32) =>
      (f_X5_must o0 p25 2 J r20.2).bind fun r26 =>
      if r26.1 = 0 then
        some ((0, J, r26.2))
      else
        (if p10 = 2 then
          (rd 2 (r26.2 (o0 + 2)) (r26.2 o0 12)).bind fun v30 =>
          if v30 < 10 then
            some 1
          else
            some 0
        else
          some 1).bind fun (p32 : Int32) =>
        (f_X5_must o0 p32 5 J r26.2).bind fun r33 =>
        if r33.1 = 0 then
          some ((0, J, r33.2))
        else
          (if p10 = 3 then
            (rd 2 (r33.2 (o0 + 3)) (r33.2 o0 12)).bind fun v37 =>
            if v37 < 16 then
              some 1
            else
              some 0
          else
            some 1).bind fun (p39 : Int32) =>
          (f_X5_must o0 p39 5 J r33.2).bind fun r40 =>
          if r40.1 = 0 then
            some ((0, J, r40.2))
          else
            (f_X5_steps o0 J r40.2).bind fun r42 =>
            (if p10 = 0 then
              (f_X5_holesLine o0 r42.1 r42.2).bind fun r45 =>
              some ((r45.1, r45.2.1, r45.2.2))
            else
              if p10 = 1 then
                (f_X5_waveLine o0 r42.1 r42.2).bind fun r47 =>
                some ((r47.1, r47.2.1, r47.2.2))
              else
                if p10 = 2 then
                  (f_X5_itemLine o0 r42.1 r42.2).bind fun r49 =>
                  some ((r49.1, r49.2.1, r49.2.2))
                else
                  (f_X5_orderLine o0 r42.1 r42.2).bind fun r50 =>
                  some ((r50.1, r50.2.1, r50.2.2))).bind fun (p51 : Int32 × MJ × MI) =>
            if p51.1 = 0 then
              some ((0, p51.2.1, p51.2.2))
            else
              (if (p51.2.2 o0 6) = 3 then
                some 1
              else
                some 0).bind fun (p55 : Int32) =>
              (f_X5_must o0 p55 1 p51.2.1 p51.2.2).bind fun r56 =>
              if r56.1 = 0 then
                some ((0, p51.2.1, r56.2))
              else
                (f_X5_steps o0 p51.2.1 r56.2).bind fun r58 =>
                some ((1, r58.1, r58.2))
theorem nm_X5_lineHere : yX5_lineHere.cls ≠ "java/lang/invoke/MethodHandle" ∧ yX5_lineHere.cls ≠ "java/lang/invoke/VarHandle" ∧ (parseMethodDescriptor yX5_lineHere.desc).map (fun d => d.parameters.length) = some 0 := by decide +kernel
set_option maxRecDepth 100000 in
set_option maxHeartbeats 4000000 in
theorem ct_X5_lineHere {E : Ev} {d : Nat} {z : Sh} {J : MJ} {I : MI} {o0 : Nat} {rr : Int32} {Jz : MJ} {Iz : MI} (ho0 : oX5 z o0) (h : f_X5_lineHere o0 J I = some ((rr, Jz, Iz))) {ad av : Nat → Nat} (hE : EvOk E ad av) : Ct E (d + 9) yX5_lineHere cX5_lineHere 3 (some .boolean) 0 0 [.ref o0] z J I (some (.int rr)) z Jz Iz := by
  unfold f_X5_lineHere at h
  refine Ct.of (own := RX5) (ls := [(0, .ref o0)]) (by decide) rfl (Nat.le_of_ble_eq_true rfl) rfl ?_
  intro X hr0 hnm hX
  refine g_aload_n hX (pc := 0) (i := 0) dX5_lineHere_0 rfl 0 rfl ?_
  refine g_ldcS hX (pc := 1) hE (tx := "holes") 0 (by decide) dX5_lineHere_1 ?_
  obtain ⟨r1, e_r1, h⟩ := bnd h
  refine g_callVi hX (pc := 3) (d := d + 8) hr0 [.ref (ad 0)] (c := 5) (ct_X5_is (d := d + 3) ho0 e_r1 hE) ho0.1.1 ho0.1.2 (by decide) rfl co_X5_is ml_X5_154 im_X5_is sl_X5_is ini_X5 nm_X5_is (by decide) ⟨Nat.le_refl _, Nat.le_refl _⟩ (Nat.le_refl _) (Nat.le_of_ble_eq_true rfl) rfl dX5_lineHere_3 ?_
  obtain ⟨p10, hpj3, h⟩ := bnd h
  have Kj3 : ∀ qj3 : Int32, qj3 = p10 → GW E X (QX E X 0 0 (some (.int rr)) z Jz Iz) 3 53 [(0, .ref o0)] [.int qj3] z J I 0 0 := by
    intro qj3 hqj3
    subst hqj3
    refine g_istore_n hX (pc := 53) (i := 1) (ls' := [(0, .ref o0), (1, .int qj3)]) [1, 0] dX5_lineHere_53 rfl (by decide) rfl ?_
    refine g_aload_n hX (pc := 54) (i := 0) dX5_lineHere_54 rfl 0 rfl ?_
    refine g_iload_n hX (pc := 55) (i := 1) dX5_lineHere_55 rfl 1 rfl ?_
    obtain ⟨p13, hpj12, h⟩ := bnd h
    have Kj12 : ∀ qj12 : Int32, qj12 = p13 → GW E X (QX E X 0 0 (some (.int rr)) z Jz Iz) 3 64 [(0, .ref o0), (1, .int qj3)] [.int qj12, .ref o0] z J I 0 0 := by
      intro qj12 hqj12
      subst hqj12
      refine g_iconst hX (pc := 64) (v := 1) dX5_lineHere_64 (by decide) ?_
      obtain ⟨r14, e_r14, h⟩ := bnd h
      refine g_callVi hX (pc := 65) (d := d + 8) hr0 [.int qj12, .int 1] (c := 5) (ct_X5_must (d := d + 8) ho0 e_r14) ho0.1.1 ho0.1.2 (by decide) rfl co_X5_must ml_X5_164 im_X5_must sl_X5_must ini_X5 nm_X5_must (by decide) ⟨Nat.le_refl _, Nat.le_refl _⟩ (Nat.le_refl _) (Nat.le_of_ble_eq_true rfl) rfl dX5_lineHere_65 ?_
      refine g_if_eq hX (pc := 68) dX5_lineHere_68 (tgt := 120) (by decide) (fun c15 => ?_) (fun c15 => ?_)
      · replace h := ifP c15 h
        refine g_iconst hX (pc := 120) (v := 0) dX5_lineHere_120 (by decide) ?_
        replace h := Option.some.inj h
        obtain ⟨rfl, hT0⟩ := Prod.mk.inj h
        obtain ⟨rfl, rfl⟩ := Prod.mk.inj hT0
        exact g_zreturn hX (Or.inl rfl) (Nat.le_refl _) (Nat.le_refl _) dX5_lineHere_121
      · replace h := ifN c15 h
        refine g_aload_n hX (pc := 71) (i := 0) dX5_lineHere_71 rfl 0 rfl ?_
        refine g_iload_n hX (pc := 72) (i := 1) dX5_lineHere_72 rfl 1 rfl ?_
        obtain ⟨p19, hpj17, h⟩ := bnd h
        have Kj17 : ∀ qj17 : Int32, qj17 = p19 → GW E X (QX E X 0 0 (some (.int rr)) z Jz Iz) 3 88 [(0, .ref o0), (1, .int qj3)] [.int qj17, .ref o0] z J r14.2 0 0 := by
          intro qj17 hqj17
          subst hqj17
          refine g_iconst hX (pc := 88) (v := 2) dX5_lineHere_88 (by decide) ?_
          obtain ⟨r20, e_r20, h⟩ := bnd h
          refine g_callVi hX (pc := 89) (d := d + 8) hr0 [.int qj17, .int 2] (c := 5) (ct_X5_must (d := d + 8) ho0 e_r20) ho0.1.1 ho0.1.2 (by decide) rfl co_X5_must ml_X5_164 im_X5_must sl_X5_must ini_X5 nm_X5_must (by decide) ⟨Nat.le_refl _, Nat.le_refl _⟩ (Nat.le_refl _) (Nat.le_of_ble_eq_true rfl) rfl dX5_lineHere_89 ?_
          refine g_if_eq hX (pc := 92) dX5_lineHere_92 (tgt := 120) (by decide) (fun c21 => ?_) (fun c21 => ?_)
          · replace h := ifP c21 h
            refine g_iconst hX (pc := 120) (v := 0) dX5_lineHere_120 (by decide) ?_
            replace h := Option.some.inj h
            obtain ⟨rfl, hT0⟩ := Prod.mk.inj h
            obtain ⟨rfl, rfl⟩ := Prod.mk.inj hT0
            exact g_zreturn hX (Or.inl rfl) (Nat.le_refl _) (Nat.le_refl _) dX5_lineHere_121
          · replace h := ifN c21 h
            refine g_aload_n hX (pc := 95) (i := 0) dX5_lineHere_95 rfl 0 rfl ?_
            refine g_iload_n hX (pc := 96) (i := 1) dX5_lineHere_96 rfl 1 rfl ?_
            refine g_iconst hX (pc := 97) (v := 1) dX5_lineHere_97 (by decide) ?_
            obtain ⟨p25, hpj23, h⟩ := bnd h
            have Kj23 : ∀ qj23 : Int32, qj23 = p25 → GW E X (QX E X 0 0 (some (.int rr)) z Jz Iz) 3 113 [(0, .ref o0), (1, .int qj3)] [.int qj23, .ref o0] z J r20.2 0 0 := by
              intro qj23 hqj23
              subst hqj23
              refine g_iconst hX (pc := 113) (v := 2) dX5_lineHere_113 (by decide) ?_
              obtain ⟨r26, e_r26, h⟩ := bnd h
              refine g_callVi hX (pc := 114) (d := d + 8) hr0 [.int qj23, .int 2] (c := 5) (ct_X5_must (d := d + 8) ho0 e_r26) ho0.1.1 ho0.1.2 (by decide) rfl co_X5_must ml_X5_164 im_X5_must sl_X5_must ini_X5 nm_X5_must (by decide) ⟨Nat.le_refl _, Nat.le_refl _⟩ (Nat.le_refl _) (Nat.le_of_ble_eq_true rfl) rfl dX5_lineHere_114 ?_
              refine g_if_ne hX (pc := 117) dX5_lineHere_117 (tgt := 122) (by decide) (fun c27 => ?_) (fun c27 => ?_)
              · replace h := ifP c27 h
                refine g_iconst hX (pc := 120) (v := 0) dX5_lineHere_120 (by decide) ?_
                replace h := Option.some.inj h
                obtain ⟨rfl, hT0⟩ := Prod.mk.inj h
                obtain ⟨rfl, rfl⟩ := Prod.mk.inj hT0
                exact g_zreturn hX (Or.inl rfl) (Nat.le_refl _) (Nat.le_refl _) dX5_lineHere_121
              · replace h := ifN c27 h
                refine g_aload_n hX (pc := 122) (i := 0) dX5_lineHere_122 rfl 0 rfl ?_
                refine g_iload_n hX (pc := 123) (i := 1) dX5_lineHere_123 rfl 1 rfl ?_
                refine g_iconst hX (pc := 124) (v := 2) dX5_lineHere_124 (by decide) ?_
                obtain ⟨p32, hpj29, h⟩ := bnd h
                have Kj29 : ∀ qj29 : Int32, qj29 = p32 → GW E X (QX E X 0 0 (some (.int rr)) z Jz Iz) 3 147 [(0, .ref o0), (1, .int qj3)] [.int qj29, .ref o0] z J r26.2 0 0 := by
                  intro qj29 hqj29
                  subst hqj29
                  refine g_iconst hX (pc := 147) (v := 5) dX5_lineHere_147 (by decide) ?_
                  obtain ⟨r33, e_r33, h⟩ := bnd h
                  refine g_callVi hX (pc := 148) (d := d + 8) hr0 [.int qj29, .int 5] (c := 5) (ct_X5_must (d := d + 8) ho0 e_r33) ho0.1.1 ho0.1.2 (by decide) rfl co_X5_must ml_X5_164 im_X5_must sl_X5_must ini_X5 nm_X5_must (by decide) ⟨Nat.le_refl _, Nat.le_refl _⟩ (Nat.le_refl _) (Nat.le_of_ble_eq_true rfl) rfl dX5_lineHere_148 ?_
                  refine g_if_eq hX (pc := 151) dX5_lineHere_151 (tgt := 186) (by decide) (fun c34 => ?_) (fun c34 => ?_)
                  · replace h := ifP c34 h
                    refine g_iconst hX (pc := 186) (v := 0) dX5_lineHere_186 (by decide) ?_
                    replace h := Option.some.inj h
                    obtain ⟨rfl, hT0⟩ := Prod.mk.inj h
                    obtain ⟨rfl, rfl⟩ := Prod.mk.inj hT0
                    exact g_zreturn hX (Or.inl rfl) (Nat.le_refl _) (Nat.le_refl _) dX5_lineHere_187
                  · replace h := ifN c34 h
                    refine g_aload_n hX (pc := 154) (i := 0) dX5_lineHere_154 rfl 0 rfl ?_
                    refine g_iload_n hX (pc := 155) (i := 1) dX5_lineHere_155 rfl 1 rfl ?_
                    refine g_iconst hX (pc := 156) (v := 3) dX5_lineHere_156 (by decide) ?_
                    obtain ⟨p39, hpj36, h⟩ := bnd h
                    have Kj36 : ∀ qj36 : Int32, qj36 = p39 → GW E X (QX E X 0 0 (some (.int rr)) z Jz Iz) 3 179 [(0, .ref o0), (1, .int qj3)] [.int qj36, .ref o0] z J r33.2 0 0 := by
                      intro qj36 hqj36
                      subst hqj36
                      refine g_iconst hX (pc := 179) (v := 5) dX5_lineHere_179 (by decide) ?_
                      obtain ⟨r40, e_r40, h⟩ := bnd h
                      refine g_callVi hX (pc := 180) (d := d + 8) hr0 [.int qj36, .int 5] (c := 5) (ct_X5_must (d := d + 8) ho0 e_r40) ho0.1.1 ho0.1.2 (by decide) rfl co_X5_must ml_X5_164 im_X5_must sl_X5_must ini_X5 nm_X5_must (by decide) ⟨Nat.le_refl _, Nat.le_refl _⟩ (Nat.le_refl _) (Nat.le_of_ble_eq_true rfl) rfl dX5_lineHere_180 ?_
                      refine g_if_ne hX (pc := 183) dX5_lineHere_183 (tgt := 188) (by decide) (fun c41 => ?_) (fun c41 => ?_)
                      · replace h := ifP c41 h
                        refine g_iconst hX (pc := 186) (v := 0) dX5_lineHere_186 (by decide) ?_
                        replace h := Option.some.inj h
                        obtain ⟨rfl, hT0⟩ := Prod.mk.inj h
                        obtain ⟨rfl, rfl⟩ := Prod.mk.inj hT0
                        exact g_zreturn hX (Or.inl rfl) (Nat.le_refl _) (Nat.le_refl _) dX5_lineHere_187
                      · replace h := ifN c41 h
                        refine g_aload_n hX (pc := 188) (i := 0) dX5_lineHere_188 rfl 0 rfl ?_
                        obtain ⟨r42, e_r42, h⟩ := bnd h
                        refine g_callVv hX (pc := 189) (d := d + 8) hr0 [] (c := 5) (ct_X5_steps (d := d + 7) ho0 e_r42) ho0.1.1 ho0.1.2 (by decide) rfl co_X5_steps ml_X5_171 im_X5_steps sl_X5_steps ini_X5 nm_X5_steps (by decide) ⟨Nat.le_refl _, Nat.le_refl _⟩ (Nat.le_refl _) (Nat.le_of_ble_eq_true rfl) rfl dX5_lineHere_189 ?_
                        refine g_iload_n hX (pc := 192) (i := 1) dX5_lineHere_192 rfl 1 rfl ?_
                        obtain ⟨p51, hpj44, h⟩ := bnd h
                        have Kj44 : ∀ qj44 : Int32 × MJ × MI, qj44 = p51 → GW E X (QX E X 0 0 (some (.int rr)) z Jz Iz) 3 231 [(0, .ref o0), (1, .int qj3)] [.int qj44.1] z qj44.2.1 qj44.2.2 0 0 := by
                          intro qj44 hqj44
                          subst hqj44
                          refine g_istore_n hX (pc := 231) (i := 2) (ls' := [(0, .ref o0), (1, .int qj3), (2, .int qj44.1)]) [1, 2, 0] dX5_lineHere_231 rfl (by decide) rfl ?_
                          refine g_iload_n hX (pc := 232) (i := 2) dX5_lineHere_232 rfl 2 rfl ?_
                          refine g_if_eq hX (pc := 233) dX5_lineHere_233 (tgt := 257) (by decide) (fun c52 => ?_) (fun c52 => ?_)
                          · replace h := ifP c52 h
                            refine g_iconst hX (pc := 257) (v := 0) dX5_lineHere_257 (by decide) ?_
                            replace h := Option.some.inj h
                            obtain ⟨rfl, hT0⟩ := Prod.mk.inj h
                            obtain ⟨rfl, rfl⟩ := Prod.mk.inj hT0
                            exact g_zreturn hX (Or.inl rfl) (Nat.le_refl _) (Nat.le_refl _) dX5_lineHere_258
                          · replace h := ifN c52 h
                            refine g_aload_n hX (pc := 236) (i := 0) dX5_lineHere_236 rfl 0 rfl ?_
                            refine g_aload_n hX (pc := 237) (i := 0) dX5_lineHere_237 rfl 0 rfl ?_
                            refine gf5_6 hX (pc := 238) ho0 fl_X5_109 dX5_lineHere_238 ?_
                            refine g_iconst hX (pc := 241) (v := 3) dX5_lineHere_241 (by decide) ?_
                            obtain ⟨p55, hpj54, h⟩ := bnd h
                            have Kj54 : ∀ qj54 : Int32, qj54 = p55 → GW E X (QX E X 0 0 (some (.int rr)) z Jz Iz) 3 250 [(0, .ref o0), (1, .int qj3), (2, .int qj44.1)] [.int qj54, .ref o0] z qj44.2.1 qj44.2.2 0 0 := by
                              intro qj54 hqj54
                              subst hqj54
                              refine g_iconst hX (pc := 250) (v := 1) dX5_lineHere_250 (by decide) ?_
                              obtain ⟨r56, e_r56, h⟩ := bnd h
                              refine g_callVi hX (pc := 251) (d := d + 8) hr0 [.int qj54, .int 1] (c := 5) (ct_X5_must (d := d + 8) ho0 e_r56) ho0.1.1 ho0.1.2 (by decide) rfl co_X5_must ml_X5_164 im_X5_must sl_X5_must ini_X5 nm_X5_must (by decide) ⟨Nat.le_refl _, Nat.le_refl _⟩ (Nat.le_refl _) (Nat.le_of_ble_eq_true rfl) rfl dX5_lineHere_251 ?_
                              refine g_if_ne hX (pc := 254) dX5_lineHere_254 (tgt := 259) (by decide) (fun c57 => ?_) (fun c57 => ?_)
                              · replace h := ifP c57 h
                                refine g_iconst hX (pc := 257) (v := 0) dX5_lineHere_257 (by decide) ?_
                                replace h := Option.some.inj h
                                obtain ⟨rfl, hT0⟩ := Prod.mk.inj h
                                obtain ⟨rfl, rfl⟩ := Prod.mk.inj hT0
                                exact g_zreturn hX (Or.inl rfl) (Nat.le_refl _) (Nat.le_refl _) dX5_lineHere_258
                              · replace h := ifN c57 h
                                refine g_aload_n hX (pc := 259) (i := 0) dX5_lineHere_259 rfl 0 rfl ?_
                                obtain ⟨r58, e_r58, h⟩ := bnd h
                                refine g_callVv hX (pc := 260) (d := d + 8) hr0 [] (c := 5) (ct_X5_steps (d := d + 7) ho0 e_r58) ho0.1.1 ho0.1.2 (by decide) rfl co_X5_steps ml_X5_171 im_X5_steps sl_X5_steps ini_X5 nm_X5_steps (by decide) ⟨Nat.le_refl _, Nat.le_refl _⟩ (Nat.le_refl _) (Nat.le_of_ble_eq_true rfl) rfl dX5_lineHere_260 ?_
                                refine g_iconst hX (pc := 263) (v := 1) dX5_lineHere_263 (by decide) ?_
                                replace h := Option.some.inj h
                                obtain ⟨rfl, hT0⟩ := Prod.mk.inj h
                                obtain ⟨rfl, rfl⟩ := Prod.mk.inj hT0
                                exact g_zreturn hX (Or.inr rfl) (Nat.le_refl _) (Nat.le_refl _) dX5_lineHere_264
                            replace h := hpj54
                            clear hpj54
                            refine g_icmp_ne hX (pc := 242) dX5_lineHere_242 (tgt := 249) (by decide) (fun c53 => ?_) (fun c53 => ?_)
                            · replace h := ifP c53 h
                              refine g_iconst hX (pc := 245) (v := 1) dX5_lineHere_245 (by decide) ?_
                              refine g_goto hX (pc := 246) (tgt := 250) dX5_lineHere_246 (by decide) ?_
                              exact Kj54 1 (Option.some.inj h)
                            · replace h := ifN c53 h
                              refine g_iconst hX (pc := 249) (v := 0) dX5_lineHere_249 (by decide) ?_
                              exact Kj54 0 (Option.some.inj h)
                        replace h := hpj44
                        clear hpj44
                        refine g_if_ne hX (pc := 193) dX5_lineHere_193 (tgt := 203) (by decide) (fun c43 => ?_) (fun c43 => ?_)
                        · replace h := ifP c43 h
                          refine g_aload_n hX (pc := 196) (i := 0) dX5_lineHere_196 rfl 0 rfl ?_
                          obtain ⟨r45, e_r45, h⟩ := bnd h
                          refine g_callVi hX (pc := 197) (d := d + 8) hr0 [] (c := 5) (ct_X5_holesLine (d := d + 5) ho0 e_r45) ho0.1.1 ho0.1.2 (by decide) rfl co_X5_holesLine ml_X5_204 im_X5_holesLine sl_X5_holesLine ini_X5 nm_X5_holesLine (by decide) ⟨Nat.le_refl _, Nat.le_refl _⟩ (Nat.le_refl _) (Nat.le_of_ble_eq_true rfl) rfl dX5_lineHere_197 ?_
                          refine g_goto hX (pc := 200) (tgt := 231) dX5_lineHere_200 (by decide) ?_
                          exact Kj44 ((r45.1, r45.2.1, r45.2.2)) (Option.some.inj h)
                        · replace h := ifN c43 h
                          refine g_iload_n hX (pc := 203) (i := 1) dX5_lineHere_203 rfl 1 rfl ?_
                          refine g_iconst hX (pc := 204) (v := 1) dX5_lineHere_204 (by decide) ?_
                          refine g_icmp_ne hX (pc := 205) dX5_lineHere_205 (tgt := 215) (by decide) (fun c46 => ?_) (fun c46 => ?_)
                          · replace h := ifP c46 h
                            refine g_aload_n hX (pc := 208) (i := 0) dX5_lineHere_208 rfl 0 rfl ?_
                            obtain ⟨r47, e_r47, h⟩ := bnd h
                            refine g_callVi hX (pc := 209) (d := d + 8) hr0 [] (c := 5) (ct_X5_waveLine (d := d + 5) ho0 e_r47) ho0.1.1 ho0.1.2 (by decide) rfl co_X5_waveLine ml_X5_207 im_X5_waveLine sl_X5_waveLine ini_X5 nm_X5_waveLine (by decide) ⟨Nat.le_refl _, Nat.le_refl _⟩ (Nat.le_refl _) (Nat.le_of_ble_eq_true rfl) rfl dX5_lineHere_209 ?_
                            refine g_goto hX (pc := 212) (tgt := 231) dX5_lineHere_212 (by decide) ?_
                            exact Kj44 ((r47.1, r47.2.1, r47.2.2)) (Option.some.inj h)
                          · replace h := ifN c46 h
                            refine g_iload_n hX (pc := 215) (i := 1) dX5_lineHere_215 rfl 1 rfl ?_
                            refine g_iconst hX (pc := 216) (v := 2) dX5_lineHere_216 (by decide) ?_
                            refine g_icmp_ne hX (pc := 217) dX5_lineHere_217 (tgt := 227) (by decide) (fun c48 => ?_) (fun c48 => ?_)
                            · replace h := ifP c48 h
                              refine g_aload_n hX (pc := 220) (i := 0) dX5_lineHere_220 rfl 0 rfl ?_
                              obtain ⟨r49, e_r49, h⟩ := bnd h
                              refine g_callVi hX (pc := 221) (d := d + 8) hr0 [] (c := 5) (ct_X5_itemLine (d := d + 0) ho0 e_r49 hE) ho0.1.1 ho0.1.2 (by decide) rfl co_X5_itemLine ml_X5_210 im_X5_itemLine sl_X5_itemLine ini_X5 nm_X5_itemLine (by decide) ⟨Nat.le_refl _, Nat.le_refl _⟩ (Nat.le_refl _) (Nat.le_of_ble_eq_true rfl) rfl dX5_lineHere_221 ?_
                              refine g_goto hX (pc := 224) (tgt := 231) dX5_lineHere_224 (by decide) ?_
                              exact Kj44 ((r49.1, r49.2.1, r49.2.2)) (Option.some.inj h)
                            · replace h := ifN c48 h
                              refine g_aload_n hX (pc := 227) (i := 0) dX5_lineHere_227 rfl 0 rfl ?_
                              obtain ⟨r50, e_r50, h⟩ := bnd h
                              refine g_callVi hX (pc := 228) (d := d + 8) hr0 [] (c := 5) (ct_X5_orderLine (d := d + 0) ho0 e_r50 hE) ho0.1.1 ho0.1.2 (by decide) rfl co_X5_orderLine ml_X5_213 im_X5_orderLine sl_X5_orderLine ini_X5 nm_X5_orderLine (by decide) ⟨Nat.le_refl _, Nat.le_refl _⟩ (Nat.le_refl _) (Nat.le_of_ble_eq_true rfl) rfl dX5_lineHere_228 ?_
                              exact Kj44 ((r50.1, r50.2.1, r50.2.2)) (Option.some.inj h)
                    replace h := hpj36
                    clear hpj36
                    refine g_icmp_ne hX (pc := 157) dX5_lineHere_157 (tgt := 174) (by decide) (fun c35 => ?_) (fun c35 => ?_)
                    · replace h := ifP c35 h
                      refine g_aload_n hX (pc := 160) (i := 0) dX5_lineHere_160 rfl 0 rfl ?_
                      refine gf5_14 hX (pc := 161) ho0 fl_X5_17 dX5_lineHere_161 ?_
                      refine g_aload_n hX (pc := 164) (i := 0) dX5_lineHere_164 rfl 0 rfl ?_
                      refine gf5_12 hX (pc := 165) ho0 fl_X5_174 dX5_lineHere_165 ?_
                      obtain ⟨v37, e_v37, h⟩ := bnd h
                      refine g_ialoadE hX (pc := 168) (s5_14 ho0).1 (s5_14 ho0).2.1 (s5_14 ho0).2.2.1 e_v37 dX5_lineHere_168 ?_
                      refine g_bipush hX (pc := 169) (v := 16) dX5_lineHere_169 (by decide) ?_
                      refine g_icmp_ge hX (pc := 171) dX5_lineHere_171 (tgt := 178) (by decide) (fun c38 => ?_) (fun c38 => ?_)
                      · replace h := ifP c38 h
                        refine g_iconst hX (pc := 174) (v := 1) dX5_lineHere_174 (by decide) ?_
                        refine g_goto hX (pc := 175) (tgt := 179) dX5_lineHere_175 (by decide) ?_
                        exact Kj36 1 (Option.some.inj h)
                      · replace h := ifN c38 h
                        refine g_iconst hX (pc := 178) (v := 0) dX5_lineHere_178 (by decide) ?_
                        exact Kj36 0 (Option.some.inj h)
                    · replace h := ifN c35 h
                      refine g_iconst hX (pc := 174) (v := 1) dX5_lineHere_174 (by decide) ?_
                      refine g_goto hX (pc := 175) (tgt := 179) dX5_lineHere_175 (by decide) ?_
                      exact Kj36 1 (Option.some.inj h)
                replace h := hpj29
                clear hpj29
                refine g_icmp_ne hX (pc := 125) dX5_lineHere_125 (tgt := 142) (by decide) (fun c28 => ?_) (fun c28 => ?_)
                · replace h := ifP c28 h
                  refine g_aload_n hX (pc := 128) (i := 0) dX5_lineHere_128 rfl 0 rfl ?_
                  refine gf5_13 hX (pc := 129) ho0 fl_X5_13 dX5_lineHere_129 ?_
                  refine g_aload_n hX (pc := 132) (i := 0) dX5_lineHere_132 rfl 0 rfl ?_
                  refine gf5_12 hX (pc := 133) ho0 fl_X5_174 dX5_lineHere_133 ?_
                  obtain ⟨v30, e_v30, h⟩ := bnd h
                  refine g_ialoadE hX (pc := 136) (s5_13 ho0).1 (s5_13 ho0).2.1 (s5_13 ho0).2.2.1 e_v30 dX5_lineHere_136 ?_
                  refine g_bipush hX (pc := 137) (v := 10) dX5_lineHere_137 (by decide) ?_
                  refine g_icmp_ge hX (pc := 139) dX5_lineHere_139 (tgt := 146) (by decide) (fun c31 => ?_) (fun c31 => ?_)
                  · replace h := ifP c31 h
                    refine g_iconst hX (pc := 142) (v := 1) dX5_lineHere_142 (by decide) ?_
                    refine g_goto hX (pc := 143) (tgt := 147) dX5_lineHere_143 (by decide) ?_
                    exact Kj29 1 (Option.some.inj h)
                  · replace h := ifN c31 h
                    refine g_iconst hX (pc := 146) (v := 0) dX5_lineHere_146 (by decide) ?_
                    exact Kj29 0 (Option.some.inj h)
                · replace h := ifN c28 h
                  refine g_iconst hX (pc := 142) (v := 1) dX5_lineHere_142 (by decide) ?_
                  refine g_goto hX (pc := 143) (tgt := 147) dX5_lineHere_143 (by decide) ?_
                  exact Kj29 1 (Option.some.inj h)
            replace h := hpj23
            clear hpj23
            refine g_icmp_ne hX (pc := 98) dX5_lineHere_98 (tgt := 108) (by decide) (fun c22 => ?_) (fun c22 => ?_)
            · replace h := ifP c22 h
              refine g_aload_n hX (pc := 101) (i := 0) dX5_lineHere_101 rfl 0 rfl ?_
              refine gf5_25 hX (pc := 102) ho0 fl_X5_198 dX5_lineHere_102 ?_
              refine g_if_ne hX (pc := 105) dX5_lineHere_105 (tgt := 112) (by decide) (fun c24 => ?_) (fun c24 => ?_)
              · replace h := ifP c24 h
                refine g_iconst hX (pc := 108) (v := 1) dX5_lineHere_108 (by decide) ?_
                refine g_goto hX (pc := 109) (tgt := 113) dX5_lineHere_109 (by decide) ?_
                exact Kj23 1 (Option.some.inj h)
              · replace h := ifN c24 h
                refine g_iconst hX (pc := 112) (v := 0) dX5_lineHere_112 (by decide) ?_
                exact Kj23 0 (Option.some.inj h)
            · replace h := ifN c22 h
              refine g_iconst hX (pc := 108) (v := 1) dX5_lineHere_108 (by decide) ?_
              refine g_goto hX (pc := 109) (tgt := 113) dX5_lineHere_109 (by decide) ?_
              exact Kj23 1 (Option.some.inj h)
        replace h := hpj17
        clear hpj17
        refine g_if_ne hX (pc := 73) dX5_lineHere_73 (tgt := 83) (by decide) (fun c16 => ?_) (fun c16 => ?_)
        · replace h := ifP c16 h
          refine g_aload_n hX (pc := 76) (i := 0) dX5_lineHere_76 rfl 0 rfl ?_
          refine gf5_24 hX (pc := 77) ho0 fl_X5_194 dX5_lineHere_77 ?_
          refine g_if_ne hX (pc := 80) dX5_lineHere_80 (tgt := 87) (by decide) (fun c18 => ?_) (fun c18 => ?_)
          · replace h := ifP c18 h
            refine g_iconst hX (pc := 83) (v := 1) dX5_lineHere_83 (by decide) ?_
            refine g_goto hX (pc := 84) (tgt := 88) dX5_lineHere_84 (by decide) ?_
            exact Kj17 1 (Option.some.inj h)
          · replace h := ifN c18 h
            refine g_iconst hX (pc := 87) (v := 0) dX5_lineHere_87 (by decide) ?_
            exact Kj17 0 (Option.some.inj h)
        · replace h := ifN c16 h
          refine g_iconst hX (pc := 83) (v := 1) dX5_lineHere_83 (by decide) ?_
          refine g_goto hX (pc := 84) (tgt := 88) dX5_lineHere_84 (by decide) ?_
          exact Kj17 1 (Option.some.inj h)
    replace h := hpj12
    clear hpj12
    refine g_if_lt hX (pc := 56) dX5_lineHere_56 (tgt := 63) (by decide) (fun c11 => ?_) (fun c11 => ?_)
    · replace h := ifP c11 h
      refine g_iconst hX (pc := 63) (v := 0) dX5_lineHere_63 (by decide) ?_
      exact Kj12 0 (Option.some.inj h)
    · replace h := ifN c11 h
      refine g_iconst hX (pc := 59) (v := 1) dX5_lineHere_59 (by decide) ?_
      refine g_goto hX (pc := 60) (tgt := 64) dX5_lineHere_60 (by decide) ?_
      exact Kj12 1 (Option.some.inj h)
  replace h := hpj3
  clear hpj3
  refine g_if_eq hX (pc := 6) dX5_lineHere_6 (tgt := 13) (by decide) (fun c2 => ?_) (fun c2 => ?_)
  · replace h := ifP c2 h
    refine g_aload_n hX (pc := 13) (i := 0) dX5_lineHere_13 rfl 0 rfl ?_
    refine g_ldcS hX (pc := 14) hE (tx := "wave") 1 (by decide) dX5_lineHere_14 ?_
    obtain ⟨r4, e_r4, h⟩ := bnd h
    refine g_callVi hX (pc := 16) (d := d + 8) hr0 [.ref (ad 1)] (c := 5) (ct_X5_is (d := d + 3) ho0 e_r4 hE) ho0.1.1 ho0.1.2 (by decide) rfl co_X5_is ml_X5_154 im_X5_is sl_X5_is ini_X5 nm_X5_is (by decide) ⟨Nat.le_refl _, Nat.le_refl _⟩ (Nat.le_refl _) (Nat.le_of_ble_eq_true rfl) rfl dX5_lineHere_16 ?_
    refine g_if_eq hX (pc := 19) dX5_lineHere_19 (tgt := 26) (by decide) (fun c5 => ?_) (fun c5 => ?_)
    · replace h := ifP c5 h
      refine g_aload_n hX (pc := 26) (i := 0) dX5_lineHere_26 rfl 0 rfl ?_
      refine g_ldcS hX (pc := 27) hE (tx := "item") 2 (by decide) dX5_lineHere_27 ?_
      obtain ⟨r6, e_r6, h⟩ := bnd h
      refine g_callVi hX (pc := 29) (d := d + 8) hr0 [.ref (ad 2)] (c := 5) (ct_X5_is (d := d + 3) ho0 e_r6 hE) ho0.1.1 ho0.1.2 (by decide) rfl co_X5_is ml_X5_154 im_X5_is sl_X5_is ini_X5 nm_X5_is (by decide) ⟨Nat.le_refl _, Nat.le_refl _⟩ (Nat.le_refl _) (Nat.le_of_ble_eq_true rfl) rfl dX5_lineHere_29 ?_
      refine g_if_eq hX (pc := 32) dX5_lineHere_32 (tgt := 39) (by decide) (fun c7 => ?_) (fun c7 => ?_)
      · replace h := ifP c7 h
        refine g_aload_n hX (pc := 39) (i := 0) dX5_lineHere_39 rfl 0 rfl ?_
        refine g_ldcS hX (pc := 40) hE (tx := "order") 3 (by decide) dX5_lineHere_40 ?_
        obtain ⟨r8, e_r8, h⟩ := bnd h
        refine g_callVi hX (pc := 42) (d := d + 8) hr0 [.ref (ad 3)] (c := 5) (ct_X5_is (d := d + 3) ho0 e_r8 hE) ho0.1.1 ho0.1.2 (by decide) rfl co_X5_is ml_X5_154 im_X5_is sl_X5_is ini_X5 nm_X5_is (by decide) ⟨Nat.le_refl _, Nat.le_refl _⟩ (Nat.le_refl _) (Nat.le_of_ble_eq_true rfl) rfl dX5_lineHere_42 ?_
        refine g_if_eq hX (pc := 45) dX5_lineHere_45 (tgt := 52) (by decide) (fun c9 => ?_) (fun c9 => ?_)
        · replace h := ifP c9 h
          refine g_iconst hX (pc := 52) (v := (-1)) dX5_lineHere_52 (by decide) ?_
          exact Kj3 ((-1)) (Option.some.inj h)
        · replace h := ifN c9 h
          refine g_iconst hX (pc := 48) (v := 3) dX5_lineHere_48 (by decide) ?_
          refine g_goto hX (pc := 49) (tgt := 53) dX5_lineHere_49 (by decide) ?_
          exact Kj3 3 (Option.some.inj h)
      · replace h := ifN c7 h
        refine g_iconst hX (pc := 35) (v := 2) dX5_lineHere_35 (by decide) ?_
        refine g_goto hX (pc := 36) (tgt := 53) dX5_lineHere_36 (by decide) ?_
        exact Kj3 2 (Option.some.inj h)
    · replace h := ifN c5 h
      refine g_iconst hX (pc := 22) (v := 1) dX5_lineHere_22 (by decide) ?_
      refine g_goto hX (pc := 23) (tgt := 53) dX5_lineHere_23 (by decide) ?_
      exact Kj3 1 (Option.some.inj h)
  · replace h := ifN c2 h
    refine g_iconst hX (pc := 9) (v := 0) dX5_lineHere_9 (by decide) ?_
    refine g_goto hX (pc := 10) (tgt := 53) dX5_lineHere_10 (by decide) ?_
    exact Kj3 0 (Option.some.inj h)
noncomputable def b_X5_empties_2 (o0 : Nat) (s : Int32 × MI) : Option ((Int32 × MI) ⊕ (Int32 × MI)) :=
  if s.1 < 2117 then
    (wr 2117 s.2 (o0 + 13) s.1 0).bind fun I5 =>
    some (.inl ((s.1 + 1, I5)))
  else
    some (.inr ((s.1, s.2)))
noncomputable def b_X5_empties_24 (o0 : Nat) (s : Int32 × MI) : Option ((Int32 × MI) ⊕ (Int32 × MI)) :=
  if s.1 < 16 then
    (wr 2117 s.2 (o0 + 13) (346 + s.1) ((-1))).bind fun I11 =>
    some (.inl ((s.1 + 1, I11)))
  else
    some (.inr ((s.1, s.2)))
noncomputable def b_X5_empties_49 (o0 : Nat) (s : Int32 × MI) : Option ((Int32 × MI) ⊕ (Int32 × MI)) :=
  if s.1 < 8 then
    (wr 2117 s.2 (o0 + 13) (362 + s.1) ((-1))).bind fun I17 =>
    some (.inl ((s.1 + 1, I17)))
  else
    some (.inr ((s.1, s.2)))
noncomputable def f_X5_empties (o0 : Nat) (J : MJ) (I : MI) : Option (MI) :=
  (lp (b_X5_empties_2 o0) ((0, I))).bind fun p6 =>
  (lp (b_X5_empties_24 o0) ((0, p6.2))).bind fun p12 =>
  (lp (b_X5_empties_49 o0) ((0, p12.2))).bind fun p18 =>
  some p18.2
theorem nm_X5_empties : yX5_empties.cls ≠ "java/lang/invoke/MethodHandle" ∧ yX5_empties.cls ≠ "java/lang/invoke/VarHandle" ∧ (parseMethodDescriptor yX5_empties.desc).map (fun d => d.parameters.length) = some 0 := by decide +kernel
set_option maxRecDepth 100000 in
set_option maxHeartbeats 4000000 in
theorem ct_X5_empties {E : Ev} {d : Nat} {z : Sh} {J : MJ} {I : MI} {o0 : Nat} {Iz : MI} (ho0 : oX5 z o0) (h : f_X5_empties o0 J I = some Iz) : Ct E (d + 0) yX5_empties cX5_empties 2 none 0 0 [.ref o0] z J I none z J Iz := by
  unfold f_X5_empties at h
  refine Ct.of (own := RX5) (ls := [(0, .ref o0)]) (by decide) rfl (Nat.le_of_ble_eq_true rfl) rfl ?_
  intro X hr0 hnm hX
  refine g_iconst hX (pc := 0) (v := 0) dX5_empties_0 (by decide) ?_
  refine g_istore_n hX (pc := 1) (i := 1) (ls' := [(0, .ref o0), (1, .int 0)]) [1, 0] dX5_empties_1 rfl (by decide) rfl ?_
  obtain ⟨p6, hpl3, h⟩ := bnd h
  have Kl3 : ∀ ql3 : Int32 × MI, ql3 = p6 → GW E X (QX E X 0 0 none z J Iz) 2 22 [(0, .ref o0), (1, .int ql3.1)] [] z J ql3.2 0 0 := by
    intro ql3 hql3
    subst hql3
    refine g_iconst hX (pc := 22) (v := 0) dX5_empties_22 (by decide) ?_
    refine g_istore_n hX (pc := 23) (i := 1) (ls' := [(0, .ref o0), (1, .int 0)]) [1, 0] dX5_empties_23 rfl (by decide) rfl ?_
    obtain ⟨p12, hpl9, h⟩ := bnd h
    have Kl9 : ∀ ql9 : Int32 × MI, ql9 = p12 → GW E X (QX E X 0 0 none z J Iz) 2 47 [(0, .ref o0), (1, .int ql9.1)] [] z J ql9.2 0 0 := by
      intro ql9 hql9
      subst hql9
      refine g_iconst hX (pc := 47) (v := 0) dX5_empties_47 (by decide) ?_
      refine g_istore_n hX (pc := 48) (i := 1) (ls' := [(0, .ref o0), (1, .int 0)]) [1, 0] dX5_empties_48 rfl (by decide) rfl ?_
      obtain ⟨p18, hpl15, h⟩ := bnd h
      have Kl15 : ∀ ql15 : Int32 × MI, ql15 = p18 → GW E X (QX E X 0 0 none z J Iz) 2 72 [(0, .ref o0), (1, .int ql15.1)] [] z J ql15.2 0 0 := by
        intro ql15 hql15
        subst hql15
        obtain rfl := Option.some.inj h
        exact g_return hX (Nat.le_refl _) (Nat.le_refl _) dX5_empties_72
      obtain ⟨kl15, hkl15⟩ := lp_ex hpl15
      clear hpl15 h
      have Ll15 : ∀ k : Nat, ∀ (s13 : Int32) (I14 : MI), lpN k (b_X5_empties_49 o0) ((s13, I14)) = some p18 → GW E X (QX E X 0 0 none z J Iz) 2 49 [(0, .ref o0), (1, .int s13)] [] z J I14 0 0 := by
        intro k
        induction k with
        | zero => intro s13 I14 h; cases h
        | succ k ihl15 =>
          intro s13 I14 h
          obtain ⟨wl15, h, hwl15⟩ := lpN_s h
          unfold b_X5_empties_49 at h
          try dsimp only at h
          refine g_iload_n hX (pc := 49) (i := 1) dX5_empties_49 rfl 1 rfl ?_
          refine g_bipush hX (pc := 50) (v := 8) dX5_empties_50 (by decide) ?_
          refine g_icmp_ge hX (pc := 52) dX5_empties_52 (tgt := 72) (by decide) (fun c16 => ?_) (fun c16 => ?_)
          · replace h := ifP c16 h
            refine g_aload_n hX (pc := 55) (i := 0) dX5_empties_55 rfl 0 rfl ?_
            refine gf5_27 hX (pc := 56) ho0 fl_X5_48 dX5_empties_56 ?_
            refine g_sipush hX (pc := 59) (v := 362) dX5_empties_59 (by decide) ?_
            refine g_iload_n hX (pc := 62) (i := 1) dX5_empties_62 rfl 1 rfl ?_
            refine g_iadd hX (pc := 63) dX5_empties_63 ?_
            refine g_iconst hX (pc := 64) (v := (-1)) dX5_empties_64 (by decide) ?_
            obtain ⟨I17, e_I17, h⟩ := bnd h
            refine g_iastoreE hX (pc := 65) (s5_27 ho0).1 (s5_27 ho0).2.1 (s5_27 ho0).2.2.1 e_I17 dX5_empties_65 ?_
            refine g_iinc hX (pc := 66) (i := 1) (v := s13 + 1) (ls' := [(0, .ref o0), (1, .int (s13 + 1))]) 1 [1, 0] dX5_empties_66 rfl (by rfl) (by decide) rfl ?_
            refine g_goto hX (pc := 69) (tgt := 49) dX5_empties_69 (by decide) ?_
            obtain rfl := Option.some.inj h
            exact ihl15 (s13 + 1) I17 hwl15
          · replace h := ifN c16 h
            obtain rfl := Option.some.inj h
            exact Kl15 ((s13, I14)) hwl15
      exact Ll15 kl15 0 ql9.2 hkl15
    obtain ⟨kl9, hkl9⟩ := lp_ex hpl9
    clear hpl9 h
    have Ll9 : ∀ k : Nat, ∀ (s7 : Int32) (I8 : MI), lpN k (b_X5_empties_24 o0) ((s7, I8)) = some p12 → GW E X (QX E X 0 0 none z J Iz) 2 24 [(0, .ref o0), (1, .int s7)] [] z J I8 0 0 := by
      intro k
      induction k with
      | zero => intro s7 I8 h; cases h
      | succ k ihl9 =>
        intro s7 I8 h
        obtain ⟨wl9, h, hwl9⟩ := lpN_s h
        unfold b_X5_empties_24 at h
        try dsimp only at h
        refine g_iload_n hX (pc := 24) (i := 1) dX5_empties_24 rfl 1 rfl ?_
        refine g_bipush hX (pc := 25) (v := 16) dX5_empties_25 (by decide) ?_
        refine g_icmp_ge hX (pc := 27) dX5_empties_27 (tgt := 47) (by decide) (fun c10 => ?_) (fun c10 => ?_)
        · replace h := ifP c10 h
          refine g_aload_n hX (pc := 30) (i := 0) dX5_empties_30 rfl 0 rfl ?_
          refine gf5_27 hX (pc := 31) ho0 fl_X5_48 dX5_empties_31 ?_
          refine g_sipush hX (pc := 34) (v := 346) dX5_empties_34 (by decide) ?_
          refine g_iload_n hX (pc := 37) (i := 1) dX5_empties_37 rfl 1 rfl ?_
          refine g_iadd hX (pc := 38) dX5_empties_38 ?_
          refine g_iconst hX (pc := 39) (v := (-1)) dX5_empties_39 (by decide) ?_
          obtain ⟨I11, e_I11, h⟩ := bnd h
          refine g_iastoreE hX (pc := 40) (s5_27 ho0).1 (s5_27 ho0).2.1 (s5_27 ho0).2.2.1 e_I11 dX5_empties_40 ?_
          refine g_iinc hX (pc := 41) (i := 1) (v := s7 + 1) (ls' := [(0, .ref o0), (1, .int (s7 + 1))]) 1 [1, 0] dX5_empties_41 rfl (by rfl) (by decide) rfl ?_
          refine g_goto hX (pc := 44) (tgt := 24) dX5_empties_44 (by decide) ?_
          obtain rfl := Option.some.inj h
          exact ihl9 (s7 + 1) I11 hwl9
        · replace h := ifN c10 h
          obtain rfl := Option.some.inj h
          exact Kl9 ((s7, I8)) hwl9
    exact Ll9 kl9 0 ql3.2 hkl9
  obtain ⟨kl3, hkl3⟩ := lp_ex hpl3
  clear hpl3 h
  have Ll3 : ∀ k : Nat, ∀ (s1 : Int32) (I2 : MI), lpN k (b_X5_empties_2 o0) ((s1, I2)) = some p6 → GW E X (QX E X 0 0 none z J Iz) 2 2 [(0, .ref o0), (1, .int s1)] [] z J I2 0 0 := by
    intro k
    induction k with
    | zero => intro s1 I2 h; cases h
    | succ k ihl3 =>
      intro s1 I2 h
      obtain ⟨wl3, h, hwl3⟩ := lpN_s h
      unfold b_X5_empties_2 at h
      try dsimp only at h
      refine g_iload_n hX (pc := 2) (i := 1) dX5_empties_2 rfl 1 rfl ?_
      refine g_sipush hX (pc := 3) (v := 2117) dX5_empties_3 (by decide) ?_
      refine g_icmp_ge hX (pc := 6) dX5_empties_6 (tgt := 22) (by decide) (fun c4 => ?_) (fun c4 => ?_)
      · replace h := ifP c4 h
        refine g_aload_n hX (pc := 9) (i := 0) dX5_empties_9 rfl 0 rfl ?_
        refine gf5_27 hX (pc := 10) ho0 fl_X5_48 dX5_empties_10 ?_
        refine g_iload_n hX (pc := 13) (i := 1) dX5_empties_13 rfl 1 rfl ?_
        refine g_iconst hX (pc := 14) (v := 0) dX5_empties_14 (by decide) ?_
        obtain ⟨I5, e_I5, h⟩ := bnd h
        refine g_iastoreE hX (pc := 15) (s5_27 ho0).1 (s5_27 ho0).2.1 (s5_27 ho0).2.2.1 e_I5 dX5_empties_15 ?_
        refine g_iinc hX (pc := 16) (i := 1) (v := s1 + 1) (ls' := [(0, .ref o0), (1, .int (s1 + 1))]) 1 [1, 0] dX5_empties_16 rfl (by rfl) (by decide) rfl ?_
        refine g_goto hX (pc := 19) (tgt := 2) dX5_empties_19 (by decide) ?_
        obtain rfl := Option.some.inj h
        exact ihl3 (s1 + 1) I5 hwl3
      · replace h := ifN c4 h
        obtain rfl := Option.some.inj h
        exact Kl3 ((s1, I2)) hwl3
  exact Ll3 kl3 0 I hkl3
noncomputable def b_X5_copies_66 (o0 : Nat) (s : Int32 × MJ × MI) : Option ((Int32 × MJ × MI) ⊕ (Int32 × MJ × MI)) :=
  if s.1 < 10 then
    (rd 20 (s.2.1 (o0 + 7)) (10 + s.1)).bind fun v17 =>
    (wr 20 s.2.1 (o0 + 7) s.1 v17).bind fun J18 =>
    (rd 20 (s.2.2 (o0 + 8)) (10 + s.1)).bind fun v19 =>
    (wr 20 s.2.2 (o0 + 8) s.1 v19).bind fun I20 =>
    (rd 2 (I20 (o0 + 2)) 0).bind fun v21 =>
    (if s.1 < v21 then
      (rd 20 (I20 (o0 + 9)) (10 + s.1)).bind fun v24 =>
      some v24
    else
      some 0).bind fun (p25 : Int32) =>
    (wr 2117 I20 (o0 + 13) s.1 p25).bind fun I26 =>
    some (.inl ((s.1 + 1, J18, I26)))
  else
    some (.inr ((s.1, s.2.1, s.2.2)))
noncomputable def b_X5_copies_139 (o0 : Nat) (s : Int32 × MJ × MI) : Option ((Int32 × MJ × MI) ⊕ (Int32 × MJ × MI)) :=
  if s.1 < 16 then
    (rd 32 (s.2.1 (o0 + 10)) (16 + s.1)).bind fun v33 =>
    (wr 32 s.2.1 (o0 + 10) s.1 v33).bind fun J34 =>
    (rd 32 (s.2.2 (o0 + 11)) (16 + s.1)).bind fun v35 =>
    (wr 32 s.2.2 (o0 + 11) s.1 v35).bind fun I36 =>
    some (.inl ((s.1 + 1, J34, I36)))
  else
    some (.inr ((s.1, s.2.1, s.2.2)))
noncomputable def b_X5_copies_183 (o0 : Nat) (s : Int32 × MI) : Option ((Int32 × MI) ⊕ (Int32 × MI)) :=
  if s.1 < 160 then
    (rd 320 (s.2 (o0 + 12)) (160 + s.1)).bind fun v42 =>
    (wr 320 s.2 (o0 + 12) s.1 v42).bind fun I43 =>
    some (.inl ((s.1 + 1, I43)))
  else
    some (.inr ((s.1, s.2)))
noncomputable def f_X5_copies (o0 : Nat) (J : MJ) (I : MI) : Option (MJ × MI) :=
  (rd 2 (I (o0 + 2)) 1).bind fun v1 =>
  (wr 2 I (o0 + 2) 0 v1).bind fun I2 =>
  (rd 2 (I2 (o0 + 3)) 1).bind fun v3 =>
  (wr 2 I2 (o0 + 3) 0 v3).bind fun I4 =>
  (rd 2 (I4 (o0 + 4)) 1).bind fun v5 =>
  (wr 2 I4 (o0 + 4) 0 v5).bind fun I6 =>
  (rd 2 (I6 (o0 + 5)) 1).bind fun v7 =>
  (wr 2 I6 (o0 + 5) 0 v7).bind fun I8 =>
  (rd 2 (I8 (o0 + 6)) 1).bind fun v9 =>
  (wr 2 I8 (o0 + 6) 0 v9).bind fun I10 =>
  (f_X5_empties o0 J I10).bind fun r11 =>
  (lp (b_X5_copies_66 o0) ((0, J, r11))).bind fun p27 =>
  (lp (b_X5_copies_139 o0) ((0, p27.2.1, p27.2.2))).bind fun p37 =>
  (lp (b_X5_copies_183 o0) ((0, p37.2.2))).bind fun p44 =>
  some ((p37.2.1, p44.2))
theorem nm_X5_copies : yX5_copies.cls ≠ "java/lang/invoke/MethodHandle" ∧ yX5_copies.cls ≠ "java/lang/invoke/VarHandle" ∧ (parseMethodDescriptor yX5_copies.desc).map (fun d => d.parameters.length) = some 0 := by decide +kernel
set_option maxRecDepth 100000 in
set_option maxHeartbeats 4000000 in
theorem ct_X5_copies {E : Ev} {d : Nat} {z : Sh} {J : MJ} {I : MI} {o0 : Nat} {Jz : MJ} {Iz : MI} (ho0 : oX5 z o0) (h : f_X5_copies o0 J I = some ((Jz, Iz))) : Ct E (d + 1) yX5_copies cX5_copies 2 none 0 0 [.ref o0] z J I none z Jz Iz := by
  unfold f_X5_copies at h
  refine Ct.of (own := RX5) (ls := [(0, .ref o0)]) (by decide) rfl (Nat.le_of_ble_eq_true rfl) rfl ?_
  intro X hr0 hnm hX
  refine g_aload_n hX (pc := 0) (i := 0) dX5_copies_0 rfl 0 rfl ?_
  refine gf5_13 hX (pc := 1) ho0 fl_X5_13 dX5_copies_1 ?_
  refine g_iconst hX (pc := 4) (v := 0) dX5_copies_4 (by decide) ?_
  refine g_aload_n hX (pc := 5) (i := 0) dX5_copies_5 rfl 0 rfl ?_
  refine gf5_13 hX (pc := 6) ho0 fl_X5_13 dX5_copies_6 ?_
  refine g_iconst hX (pc := 9) (v := 1) dX5_copies_9 (by decide) ?_
  obtain ⟨v1, e_v1, h⟩ := bnd h
  refine g_ialoadE hX (pc := 10) (s5_13 ho0).1 (s5_13 ho0).2.1 (s5_13 ho0).2.2.1 e_v1 dX5_copies_10 ?_
  obtain ⟨I2, e_I2, h⟩ := bnd h
  refine g_iastoreE hX (pc := 11) (s5_13 ho0).1 (s5_13 ho0).2.1 (s5_13 ho0).2.2.1 e_I2 dX5_copies_11 ?_
  refine g_aload_n hX (pc := 12) (i := 0) dX5_copies_12 rfl 0 rfl ?_
  refine gf5_14 hX (pc := 13) ho0 fl_X5_17 dX5_copies_13 ?_
  refine g_iconst hX (pc := 16) (v := 0) dX5_copies_16 (by decide) ?_
  refine g_aload_n hX (pc := 17) (i := 0) dX5_copies_17 rfl 0 rfl ?_
  refine gf5_14 hX (pc := 18) ho0 fl_X5_17 dX5_copies_18 ?_
  refine g_iconst hX (pc := 21) (v := 1) dX5_copies_21 (by decide) ?_
  obtain ⟨v3, e_v3, h⟩ := bnd h
  refine g_ialoadE hX (pc := 22) (s5_14 ho0).1 (s5_14 ho0).2.1 (s5_14 ho0).2.2.1 e_v3 dX5_copies_22 ?_
  obtain ⟨I4, e_I4, h⟩ := bnd h
  refine g_iastoreE hX (pc := 23) (s5_14 ho0).1 (s5_14 ho0).2.1 (s5_14 ho0).2.2.1 e_I4 dX5_copies_23 ?_
  refine g_aload_n hX (pc := 24) (i := 0) dX5_copies_24 rfl 0 rfl ?_
  refine gf5_15 hX (pc := 25) ho0 fl_X5_20 dX5_copies_25 ?_
  refine g_iconst hX (pc := 28) (v := 0) dX5_copies_28 (by decide) ?_
  refine g_aload_n hX (pc := 29) (i := 0) dX5_copies_29 rfl 0 rfl ?_
  refine gf5_15 hX (pc := 30) ho0 fl_X5_20 dX5_copies_30 ?_
  refine g_iconst hX (pc := 33) (v := 1) dX5_copies_33 (by decide) ?_
  obtain ⟨v5, e_v5, h⟩ := bnd h
  refine g_ialoadE hX (pc := 34) (s5_15 ho0).1 (s5_15 ho0).2.1 (s5_15 ho0).2.2.1 e_v5 dX5_copies_34 ?_
  obtain ⟨I6, e_I6, h⟩ := bnd h
  refine g_iastoreE hX (pc := 35) (s5_15 ho0).1 (s5_15 ho0).2.1 (s5_15 ho0).2.2.1 e_I6 dX5_copies_35 ?_
  refine g_aload_n hX (pc := 36) (i := 0) dX5_copies_36 rfl 0 rfl ?_
  refine gf5_16 hX (pc := 37) ho0 fl_X5_23 dX5_copies_37 ?_
  refine g_iconst hX (pc := 40) (v := 0) dX5_copies_40 (by decide) ?_
  refine g_aload_n hX (pc := 41) (i := 0) dX5_copies_41 rfl 0 rfl ?_
  refine gf5_16 hX (pc := 42) ho0 fl_X5_23 dX5_copies_42 ?_
  refine g_iconst hX (pc := 45) (v := 1) dX5_copies_45 (by decide) ?_
  obtain ⟨v7, e_v7, h⟩ := bnd h
  refine g_ialoadE hX (pc := 46) (s5_16 ho0).1 (s5_16 ho0).2.1 (s5_16 ho0).2.2.1 e_v7 dX5_copies_46 ?_
  obtain ⟨I8, e_I8, h⟩ := bnd h
  refine g_iastoreE hX (pc := 47) (s5_16 ho0).1 (s5_16 ho0).2.1 (s5_16 ho0).2.2.1 e_I8 dX5_copies_47 ?_
  refine g_aload_n hX (pc := 48) (i := 0) dX5_copies_48 rfl 0 rfl ?_
  refine gf5_17 hX (pc := 49) ho0 fl_X5_26 dX5_copies_49 ?_
  refine g_iconst hX (pc := 52) (v := 0) dX5_copies_52 (by decide) ?_
  refine g_aload_n hX (pc := 53) (i := 0) dX5_copies_53 rfl 0 rfl ?_
  refine gf5_17 hX (pc := 54) ho0 fl_X5_26 dX5_copies_54 ?_
  refine g_iconst hX (pc := 57) (v := 1) dX5_copies_57 (by decide) ?_
  obtain ⟨v9, e_v9, h⟩ := bnd h
  refine g_ialoadE hX (pc := 58) (s5_17 ho0).1 (s5_17 ho0).2.1 (s5_17 ho0).2.2.1 e_v9 dX5_copies_58 ?_
  obtain ⟨I10, e_I10, h⟩ := bnd h
  refine g_iastoreE hX (pc := 59) (s5_17 ho0).1 (s5_17 ho0).2.1 (s5_17 ho0).2.2.1 e_I10 dX5_copies_59 ?_
  refine g_aload_n hX (pc := 60) (i := 0) dX5_copies_60 rfl 0 rfl ?_
  obtain ⟨r11, e_r11, h⟩ := bnd h
  refine g_callVv hX (pc := 61) (d := d + 0) hr0 [] (c := 5) (ct_X5_empties (d := d + 0) ho0 e_r11) ho0.1.1 ho0.1.2 (by decide) rfl co_X5_empties ml_X5_83 im_X5_empties sl_X5_empties ini_X5 nm_X5_empties (by decide) ⟨Nat.le_refl _, Nat.le_refl _⟩ (Nat.le_refl _) (Nat.le_of_ble_eq_true rfl) rfl dX5_copies_61 ?_
  refine g_iconst hX (pc := 64) (v := 0) dX5_copies_64 (by decide) ?_
  refine g_istore_n hX (pc := 65) (i := 1) (ls' := [(0, .ref o0), (1, .int 0)]) [1, 0] dX5_copies_65 rfl (by decide) rfl ?_
  obtain ⟨p27, hpl15, h⟩ := bnd h
  have Kl15 : ∀ ql15 : Int32 × MJ × MI, ql15 = p27 → GW E X (QX E X 0 0 none z Jz Iz) 2 137 [(0, .ref o0), (1, .int ql15.1)] [] z ql15.2.1 ql15.2.2 0 0 := by
    intro ql15 hql15
    subst hql15
    refine g_iconst hX (pc := 137) (v := 0) dX5_copies_137 (by decide) ?_
    refine g_istore_n hX (pc := 138) (i := 1) (ls' := [(0, .ref o0), (1, .int 0)]) [1, 0] dX5_copies_138 rfl (by decide) rfl ?_
    obtain ⟨p37, hpl31, h⟩ := bnd h
    have Kl31 : ∀ ql31 : Int32 × MJ × MI, ql31 = p37 → GW E X (QX E X 0 0 none z Jz Iz) 2 181 [(0, .ref o0), (1, .int ql31.1)] [] z ql31.2.1 ql31.2.2 0 0 := by
      intro ql31 hql31
      subst hql31
      refine g_iconst hX (pc := 181) (v := 0) dX5_copies_181 (by decide) ?_
      refine g_istore_n hX (pc := 182) (i := 1) (ls' := [(0, .ref o0), (1, .int 0)]) [1, 0] dX5_copies_182 rfl (by decide) rfl ?_
      obtain ⟨p44, hpl40, h⟩ := bnd h
      have Kl40 : ∀ ql40 : Int32 × MI, ql40 = p44 → GW E X (QX E X 0 0 none z Jz Iz) 2 212 [(0, .ref o0), (1, .int ql40.1)] [] z ql31.2.1 ql40.2 0 0 := by
        intro ql40 hql40
        subst hql40
        replace h := Option.some.inj h
        obtain ⟨rfl, rfl⟩ := Prod.mk.inj h
        exact g_return hX (Nat.le_refl _) (Nat.le_refl _) dX5_copies_212
      obtain ⟨kl40, hkl40⟩ := lp_ex hpl40
      clear hpl40 h
      have Ll40 : ∀ k : Nat, ∀ (s38 : Int32) (I39 : MI), lpN k (b_X5_copies_183 o0) ((s38, I39)) = some p44 → GW E X (QX E X 0 0 none z Jz Iz) 2 183 [(0, .ref o0), (1, .int s38)] [] z ql31.2.1 I39 0 0 := by
        intro k
        induction k with
        | zero => intro s38 I39 h; cases h
        | succ k ihl40 =>
          intro s38 I39 h
          obtain ⟨wl40, h, hwl40⟩ := lpN_s h
          unfold b_X5_copies_183 at h
          try dsimp only at h
          refine g_iload_n hX (pc := 183) (i := 1) dX5_copies_183 rfl 1 rfl ?_
          refine g_sipush hX (pc := 184) (v := 160) dX5_copies_184 (by decide) ?_
          refine g_icmp_ge hX (pc := 187) dX5_copies_187 (tgt := 212) (by decide) (fun c41 => ?_) (fun c41 => ?_)
          · replace h := ifP c41 h
            refine g_aload_n hX (pc := 190) (i := 0) dX5_copies_190 rfl 0 rfl ?_
            refine gf5_23 hX (pc := 191) ho0 fl_X5_45 dX5_copies_191 ?_
            refine g_iload_n hX (pc := 194) (i := 1) dX5_copies_194 rfl 1 rfl ?_
            refine g_aload_n hX (pc := 195) (i := 0) dX5_copies_195 rfl 0 rfl ?_
            refine gf5_23 hX (pc := 196) ho0 fl_X5_45 dX5_copies_196 ?_
            refine g_sipush hX (pc := 199) (v := 160) dX5_copies_199 (by decide) ?_
            refine g_iload_n hX (pc := 202) (i := 1) dX5_copies_202 rfl 1 rfl ?_
            refine g_iadd hX (pc := 203) dX5_copies_203 ?_
            obtain ⟨v42, e_v42, h⟩ := bnd h
            refine g_ialoadE hX (pc := 204) (s5_23 ho0).1 (s5_23 ho0).2.1 (s5_23 ho0).2.2.1 e_v42 dX5_copies_204 ?_
            obtain ⟨I43, e_I43, h⟩ := bnd h
            refine g_iastoreE hX (pc := 205) (s5_23 ho0).1 (s5_23 ho0).2.1 (s5_23 ho0).2.2.1 e_I43 dX5_copies_205 ?_
            refine g_iinc hX (pc := 206) (i := 1) (v := s38 + 1) (ls' := [(0, .ref o0), (1, .int (s38 + 1))]) 1 [1, 0] dX5_copies_206 rfl (by rfl) (by decide) rfl ?_
            refine g_goto hX (pc := 209) (tgt := 183) dX5_copies_209 (by decide) ?_
            obtain rfl := Option.some.inj h
            exact ihl40 (s38 + 1) I43 hwl40
          · replace h := ifN c41 h
            obtain rfl := Option.some.inj h
            exact Kl40 ((s38, I39)) hwl40
      exact Ll40 kl40 0 ql31.2.2 hkl40
    obtain ⟨kl31, hkl31⟩ := lp_ex hpl31
    clear hpl31 h
    have Ll31 : ∀ k : Nat, ∀ (s28 : Int32) (J29 : MJ) (I30 : MI), lpN k (b_X5_copies_139 o0) ((s28, J29, I30)) = some p37 → GW E X (QX E X 0 0 none z Jz Iz) 2 139 [(0, .ref o0), (1, .int s28)] [] z J29 I30 0 0 := by
      intro k
      induction k with
      | zero => intro s28 J29 I30 h; cases h
      | succ k ihl31 =>
        intro s28 J29 I30 h
        obtain ⟨wl31, h, hwl31⟩ := lpN_s h
        unfold b_X5_copies_139 at h
        try dsimp only at h
        refine g_iload_n hX (pc := 139) (i := 1) dX5_copies_139 rfl 1 rfl ?_
        refine g_bipush hX (pc := 140) (v := 16) dX5_copies_140 (by decide) ?_
        refine g_icmp_ge hX (pc := 142) dX5_copies_142 (tgt := 181) (by decide) (fun c32 => ?_) (fun c32 => ?_)
        · replace h := ifP c32 h
          refine g_aload_n hX (pc := 145) (i := 0) dX5_copies_145 rfl 0 rfl ?_
          refine gf5_21 hX (pc := 146) ho0 fl_X5_39 dX5_copies_146 ?_
          refine g_iload_n hX (pc := 149) (i := 1) dX5_copies_149 rfl 1 rfl ?_
          refine g_aload_n hX (pc := 150) (i := 0) dX5_copies_150 rfl 0 rfl ?_
          refine gf5_21 hX (pc := 151) ho0 fl_X5_39 dX5_copies_151 ?_
          refine g_bipush hX (pc := 154) (v := 16) dX5_copies_154 (by decide) ?_
          refine g_iload_n hX (pc := 156) (i := 1) dX5_copies_156 rfl 1 rfl ?_
          refine g_iadd hX (pc := 157) dX5_copies_157 ?_
          obtain ⟨v33, e_v33, h⟩ := bnd h
          refine g_laloadE hX (pc := 158) (s5_21 ho0).1 (s5_21 ho0).2.1 (s5_21 ho0).2.2.1 e_v33 dX5_copies_158 ?_
          obtain ⟨J34, e_J34, h⟩ := bnd h
          refine g_lastoreE hX (pc := 159) (s5_21 ho0).1 (s5_21 ho0).2.1 (s5_21 ho0).2.2.1 e_J34 dX5_copies_159 ?_
          refine g_aload_n hX (pc := 160) (i := 0) dX5_copies_160 rfl 0 rfl ?_
          refine gf5_22 hX (pc := 161) ho0 fl_X5_42 dX5_copies_161 ?_
          refine g_iload_n hX (pc := 164) (i := 1) dX5_copies_164 rfl 1 rfl ?_
          refine g_aload_n hX (pc := 165) (i := 0) dX5_copies_165 rfl 0 rfl ?_
          refine gf5_22 hX (pc := 166) ho0 fl_X5_42 dX5_copies_166 ?_
          refine g_bipush hX (pc := 169) (v := 16) dX5_copies_169 (by decide) ?_
          refine g_iload_n hX (pc := 171) (i := 1) dX5_copies_171 rfl 1 rfl ?_
          refine g_iadd hX (pc := 172) dX5_copies_172 ?_
          obtain ⟨v35, e_v35, h⟩ := bnd h
          refine g_ialoadE hX (pc := 173) (s5_22 ho0).1 (s5_22 ho0).2.1 (s5_22 ho0).2.2.1 e_v35 dX5_copies_173 ?_
          obtain ⟨I36, e_I36, h⟩ := bnd h
          refine g_iastoreE hX (pc := 174) (s5_22 ho0).1 (s5_22 ho0).2.1 (s5_22 ho0).2.2.1 e_I36 dX5_copies_174 ?_
          refine g_iinc hX (pc := 175) (i := 1) (v := s28 + 1) (ls' := [(0, .ref o0), (1, .int (s28 + 1))]) 1 [1, 0] dX5_copies_175 rfl (by rfl) (by decide) rfl ?_
          refine g_goto hX (pc := 178) (tgt := 139) dX5_copies_178 (by decide) ?_
          obtain rfl := Option.some.inj h
          exact ihl31 (s28 + 1) J34 I36 hwl31
        · replace h := ifN c32 h
          obtain rfl := Option.some.inj h
          exact Kl31 ((s28, J29, I30)) hwl31
    exact Ll31 kl31 0 ql15.2.1 ql15.2.2 hkl31
  obtain ⟨kl15, hkl15⟩ := lp_ex hpl15
  clear hpl15 h
  have Ll15 : ∀ k : Nat, ∀ (s12 : Int32) (J13 : MJ) (I14 : MI), lpN k (b_X5_copies_66 o0) ((s12, J13, I14)) = some p27 → GW E X (QX E X 0 0 none z Jz Iz) 2 66 [(0, .ref o0), (1, .int s12)] [] z J13 I14 0 0 := by
    intro k
    induction k with
    | zero => intro s12 J13 I14 h; cases h
    | succ k ihl15 =>
      intro s12 J13 I14 h
      obtain ⟨wl15, h, hwl15⟩ := lpN_s h
      unfold b_X5_copies_66 at h
      try dsimp only at h
      refine g_iload_n hX (pc := 66) (i := 1) dX5_copies_66 rfl 1 rfl ?_
      refine g_bipush hX (pc := 67) (v := 10) dX5_copies_67 (by decide) ?_
      refine g_icmp_ge hX (pc := 69) dX5_copies_69 (tgt := 137) (by decide) (fun c16 => ?_) (fun c16 => ?_)
      · replace h := ifP c16 h
        refine g_aload_n hX (pc := 72) (i := 0) dX5_copies_72 rfl 0 rfl ?_
        refine gf5_18 hX (pc := 73) ho0 fl_X5_29 dX5_copies_73 ?_
        refine g_iload_n hX (pc := 76) (i := 1) dX5_copies_76 rfl 1 rfl ?_
        refine g_aload_n hX (pc := 77) (i := 0) dX5_copies_77 rfl 0 rfl ?_
        refine gf5_18 hX (pc := 78) ho0 fl_X5_29 dX5_copies_78 ?_
        refine g_bipush hX (pc := 81) (v := 10) dX5_copies_81 (by decide) ?_
        refine g_iload_n hX (pc := 83) (i := 1) dX5_copies_83 rfl 1 rfl ?_
        refine g_iadd hX (pc := 84) dX5_copies_84 ?_
        obtain ⟨v17, e_v17, h⟩ := bnd h
        refine g_laloadE hX (pc := 85) (s5_18 ho0).1 (s5_18 ho0).2.1 (s5_18 ho0).2.2.1 e_v17 dX5_copies_85 ?_
        obtain ⟨J18, e_J18, h⟩ := bnd h
        refine g_lastoreE hX (pc := 86) (s5_18 ho0).1 (s5_18 ho0).2.1 (s5_18 ho0).2.2.1 e_J18 dX5_copies_86 ?_
        refine g_aload_n hX (pc := 87) (i := 0) dX5_copies_87 rfl 0 rfl ?_
        refine gf5_19 hX (pc := 88) ho0 fl_X5_33 dX5_copies_88 ?_
        refine g_iload_n hX (pc := 91) (i := 1) dX5_copies_91 rfl 1 rfl ?_
        refine g_aload_n hX (pc := 92) (i := 0) dX5_copies_92 rfl 0 rfl ?_
        refine gf5_19 hX (pc := 93) ho0 fl_X5_33 dX5_copies_93 ?_
        refine g_bipush hX (pc := 96) (v := 10) dX5_copies_96 (by decide) ?_
        refine g_iload_n hX (pc := 98) (i := 1) dX5_copies_98 rfl 1 rfl ?_
        refine g_iadd hX (pc := 99) dX5_copies_99 ?_
        obtain ⟨v19, e_v19, h⟩ := bnd h
        refine g_ialoadE hX (pc := 100) (s5_19 ho0).1 (s5_19 ho0).2.1 (s5_19 ho0).2.2.1 e_v19 dX5_copies_100 ?_
        obtain ⟨I20, e_I20, h⟩ := bnd h
        refine g_iastoreE hX (pc := 101) (s5_19 ho0).1 (s5_19 ho0).2.1 (s5_19 ho0).2.2.1 e_I20 dX5_copies_101 ?_
        refine g_aload_n hX (pc := 102) (i := 0) dX5_copies_102 rfl 0 rfl ?_
        refine gf5_27 hX (pc := 103) ho0 fl_X5_48 dX5_copies_103 ?_
        refine g_iload_n hX (pc := 106) (i := 1) dX5_copies_106 rfl 1 rfl ?_
        refine g_iload_n hX (pc := 107) (i := 1) dX5_copies_107 rfl 1 rfl ?_
        refine g_aload_n hX (pc := 108) (i := 0) dX5_copies_108 rfl 0 rfl ?_
        refine gf5_13 hX (pc := 109) ho0 fl_X5_13 dX5_copies_109 ?_
        refine g_iconst hX (pc := 112) (v := 0) dX5_copies_112 (by decide) ?_
        obtain ⟨v21, e_v21, h⟩ := bnd h
        refine g_ialoadE hX (pc := 113) (s5_13 ho0).1 (s5_13 ho0).2.1 (s5_13 ho0).2.2.1 e_v21 dX5_copies_113 ?_
        obtain ⟨p25, hpj23, h⟩ := bnd h
        have Kj23 : ∀ qj23 : Int32, qj23 = p25 → GW E X (QX E X 0 0 none z Jz Iz) 2 130 [(0, .ref o0), (1, .int s12)] [.int qj23, .int s12, .ref (o0 + 13)] z J18 I20 0 0 := by
          intro qj23 hqj23
          subst hqj23
          obtain ⟨I26, e_I26, h⟩ := bnd h
          refine g_iastoreE hX (pc := 130) (s5_27 ho0).1 (s5_27 ho0).2.1 (s5_27 ho0).2.2.1 e_I26 dX5_copies_130 ?_
          refine g_iinc hX (pc := 131) (i := 1) (v := s12 + 1) (ls' := [(0, .ref o0), (1, .int (s12 + 1))]) 1 [1, 0] dX5_copies_131 rfl (by rfl) (by decide) rfl ?_
          refine g_goto hX (pc := 134) (tgt := 66) dX5_copies_134 (by decide) ?_
          obtain rfl := Option.some.inj h
          exact ihl15 (s12 + 1) J18 I26 hwl15
        replace h := hpj23
        clear hpj23
        refine g_icmp_ge hX (pc := 114) dX5_copies_114 (tgt := 129) (by decide) (fun c22 => ?_) (fun c22 => ?_)
        · replace h := ifP c22 h
          refine g_aload_n hX (pc := 117) (i := 0) dX5_copies_117 rfl 0 rfl ?_
          refine gf5_20 hX (pc := 118) ho0 fl_X5_36 dX5_copies_118 ?_
          refine g_bipush hX (pc := 121) (v := 10) dX5_copies_121 (by decide) ?_
          refine g_iload_n hX (pc := 123) (i := 1) dX5_copies_123 rfl 1 rfl ?_
          refine g_iadd hX (pc := 124) dX5_copies_124 ?_
          obtain ⟨v24, e_v24, h⟩ := bnd h
          refine g_ialoadE hX (pc := 125) (s5_20 ho0).1 (s5_20 ho0).2.1 (s5_20 ho0).2.2.1 e_v24 dX5_copies_125 ?_
          refine g_goto hX (pc := 126) (tgt := 130) dX5_copies_126 (by decide) ?_
          exact Kj23 v24 (Option.some.inj h)
        · replace h := ifN c22 h
          refine g_iconst hX (pc := 129) (v := 0) dX5_copies_129 (by decide) ?_
          exact Kj23 0 (Option.some.inj h)
      · replace h := ifN c16 h
        obtain rfl := Option.some.inj h
        exact Kl15 ((s12, J13, I14)) hwl15
  exact Ll15 kl15 0 J r11 hkl15
noncomputable def b_X5_wall_69 (o0 : Nat) (s : Int32 × Int32 × MJ × MI) : Option ((Int32 × Int32 × MJ × MI) ⊕ (Int32 × Int32 × MJ × MI)) :=
  if s.2.1 = 0 then
    some (.inr ((s.1, s.2.1, s.2.2.1, s.2.2.2)))
  else
    if (s.2.2.2 o0 6) = 0 then
      some (.inr ((s.1, s.2.1, s.2.2.1, s.2.2.2)))
    else
      (f_X5_lineHere o0 s.2.2.1 s.2.2.2).bind fun r20 =>
      some (.inl ((s.1 + 1, r20.1, r20.2.1, r20.2.2)))
noncomputable def f_X5_wall (o0 : Nat) (x1 : Int32) (J : MJ) (I : MI) : Option (Int32 × MJ × MI) :=
  (wf I o0 0 0).bind fun I1 =>
  (f_X5_within x1.toInt64 0 ((I1 o0 2).toInt64)).bind fun r2 =>
  if r2 = 0 then
    some (((-1), J, I1))
  else
    (wf I1 o0 2 0).bind fun I4 =>
    (wf I4 o0 3 x1).bind fun I5 =>
    (wf I5 o0 5 0).bind fun I6 =>
    (wf I6 o0 9 0).bind fun I7 =>
    (wf I7 o0 12 1).bind fun I8 =>
    (f_X5_plain o0 1 J I8).bind fun r9 =>
    (wf r9 o0 24 0).bind fun I10 =>
    (wf I10 o0 25 0).bind fun I11 =>
    (f_X5_steps o0 J I11).bind fun r12 =>
    (lp (b_X5_wall_69 o0) ((0, 1, r12.1, r12.2))).bind fun p21 =>
    (wf p21.2.2.2 o0 12 0).bind fun I22 =>
    if p21.2.1 = 0 then
      some ((((-2)) - ((8 * (I22 o0 10)) + (I22 o0 9)), p21.2.2.1, I22))
    else
      (f_X5_copies o0 p21.2.2.1 I22).bind fun r24 =>
      (wf r24.2 o0 29 0).bind fun I25 =>
      (wr 2 I25 (o0 + 16) 0 0).bind fun I26 =>
      (wr 2 I26 (o0 + 16) 1 0).bind fun I27 =>
      some ((p21.1, r24.1, I27))
theorem nm_X5_wall : yX5_wall.cls ≠ "java/lang/invoke/MethodHandle" ∧ yX5_wall.cls ≠ "java/lang/invoke/VarHandle" ∧ (parseMethodDescriptor yX5_wall.desc).map (fun d => d.parameters.length) = some 1 := by decide +kernel
set_option maxRecDepth 100000 in
set_option maxHeartbeats 4000000 in
theorem ct_X5_wall {E : Ev} {d : Nat} {z : Sh} {J : MJ} {I : MI} {o0 : Nat} {x1 : Int32} {rr : Int32} {Jz : MJ} {Iz : MI} (ho0 : oX5 z o0) (h : f_X5_wall o0 x1 J I = some ((rr, Jz, Iz))) {ad av : Nat → Nat} (hE : EvOk E ad av) : Ct E (d + 10) yX5_wall cX5_wall 4 (some .int) 0 0 [.ref o0, .int x1] z J I (some (.int rr)) z Jz Iz := by
  unfold f_X5_wall at h
  refine Ct.of (own := RX5) (ls := [(0, .ref o0), (1, .int x1)]) (by decide) rfl (Nat.le_of_ble_eq_true rfl) rfl ?_
  intro X hr0 hnm hX
  refine g_aload_n hX (pc := 0) (i := 0) dX5_wall_0 rfl 0 rfl ?_
  refine g_iconst hX (pc := 1) (v := 0) dX5_wall_1 (by decide) ?_
  obtain ⟨I1, e_I1, h⟩ := bnd h
  refine pf5_0 hX (pc := 2) ho0 fl_X5_86 dX5_wall_2 e_I1 ?_
  refine g_iload_n hX (pc := 5) (i := 1) dX5_wall_5 rfl 1 rfl ?_
  refine g_i2l hX (pc := 6) dX5_wall_6 ?_
  refine g_lconst hX (pc := 7) (v := 0) dX5_wall_7 (by decide) ?_
  refine g_aload_n hX (pc := 8) (i := 0) dX5_wall_8 rfl 0 rfl ?_
  refine gf5_2 hX (pc := 9) ho0 fl_X5_90 dX5_wall_9 ?_
  refine g_i2l hX (pc := 12) dX5_wall_12 ?_
  obtain ⟨r2, e_r2, h⟩ := bnd h
  refine g_callSi hX (pc := 13) (d := d + 9) hr0 [.long x1.toInt64, .long 0, .long ((I1 o0 2).toInt64)] (ct_X5_within (d := d + 9)  e_r2) co_X5_within ml_X5_123 sta_X5_within ini_X5 nm_X5_within (by decide) ⟨Nat.le_refl _, Nat.le_refl _⟩ (Nat.le_refl _) (Nat.le_of_ble_eq_true rfl) rfl dX5_wall_13 ?_
  refine g_if_ne hX (pc := 16) dX5_wall_16 (tgt := 21) (by decide) (fun c3 => ?_) (fun c3 => ?_)
  · replace h := ifP c3 h
    refine g_iconst hX (pc := 19) (v := (-1)) dX5_wall_19 (by decide) ?_
    replace h := Option.some.inj h
    obtain ⟨rfl, hT0⟩ := Prod.mk.inj h
    obtain ⟨rfl, rfl⟩ := Prod.mk.inj hT0
    exact g_ireturn hX (Nat.le_refl _) (Nat.le_refl _) dX5_wall_20
  · replace h := ifN c3 h
    refine g_aload_n hX (pc := 21) (i := 0) dX5_wall_21 rfl 0 rfl ?_
    refine g_iconst hX (pc := 22) (v := 0) dX5_wall_22 (by decide) ?_
    obtain ⟨I4, e_I4, h⟩ := bnd h
    refine pf5_2 hX (pc := 23) ho0 fl_X5_90 dX5_wall_23 e_I4 ?_
    refine g_aload_n hX (pc := 26) (i := 0) dX5_wall_26 rfl 0 rfl ?_
    refine g_iload_n hX (pc := 27) (i := 1) dX5_wall_27 rfl 1 rfl ?_
    obtain ⟨I5, e_I5, h⟩ := bnd h
    refine pf5_3 hX (pc := 28) ho0 fl_X5_96 dX5_wall_28 e_I5 ?_
    refine g_aload_n hX (pc := 31) (i := 0) dX5_wall_31 rfl 0 rfl ?_
    refine g_iconst hX (pc := 32) (v := 0) dX5_wall_32 (by decide) ?_
    obtain ⟨I6, e_I6, h⟩ := bnd h
    refine pf5_5 hX (pc := 33) ho0 fl_X5_99 dX5_wall_33 e_I6 ?_
    refine g_aload_n hX (pc := 36) (i := 0) dX5_wall_36 rfl 0 rfl ?_
    refine g_iconst hX (pc := 37) (v := 0) dX5_wall_37 (by decide) ?_
    obtain ⟨I7, e_I7, h⟩ := bnd h
    refine pf5_9 hX (pc := 38) ho0 fl_X5_133 dX5_wall_38 e_I7 ?_
    refine g_aload_n hX (pc := 41) (i := 0) dX5_wall_41 rfl 0 rfl ?_
    refine g_iconst hX (pc := 42) (v := 1) dX5_wall_42 (by decide) ?_
    obtain ⟨I8, e_I8, h⟩ := bnd h
    refine pf5_12 hX (pc := 43) ho0 fl_X5_174 dX5_wall_43 e_I8 ?_
    refine g_aload_n hX (pc := 46) (i := 0) dX5_wall_46 rfl 0 rfl ?_
    refine g_iconst hX (pc := 47) (v := 1) dX5_wall_47 (by decide) ?_
    obtain ⟨r9, e_r9, h⟩ := bnd h
    refine g_callVv hX (pc := 48) (d := d + 9) hr0 [.int 1] (c := 5) (ct_X5_plain (d := d + 9) ho0 e_r9) ho0.1.1 ho0.1.2 (by decide) rfl co_X5_plain ml_X5_79 im_X5_plain sl_X5_plain ini_X5 nm_X5_plain (by decide) ⟨Nat.le_refl _, Nat.le_refl _⟩ (Nat.le_refl _) (Nat.le_of_ble_eq_true rfl) rfl dX5_wall_48 ?_
    refine g_aload_n hX (pc := 51) (i := 0) dX5_wall_51 rfl 0 rfl ?_
    refine g_iconst hX (pc := 52) (v := 0) dX5_wall_52 (by decide) ?_
    obtain ⟨I10, e_I10, h⟩ := bnd h
    refine pf5_24 hX (pc := 53) ho0 fl_X5_194 dX5_wall_53 e_I10 (by decide) ?_
    refine g_aload_n hX (pc := 56) (i := 0) dX5_wall_56 rfl 0 rfl ?_
    refine g_iconst hX (pc := 57) (v := 0) dX5_wall_57 (by decide) ?_
    obtain ⟨I11, e_I11, h⟩ := bnd h
    refine pf5_25 hX (pc := 58) ho0 fl_X5_198 dX5_wall_58 e_I11 (by decide) ?_
    refine g_aload_n hX (pc := 61) (i := 0) dX5_wall_61 rfl 0 rfl ?_
    obtain ⟨r12, e_r12, h⟩ := bnd h
    refine g_callVv hX (pc := 62) (d := d + 9) hr0 [] (c := 5) (ct_X5_steps (d := d + 8) ho0 e_r12) ho0.1.1 ho0.1.2 (by decide) rfl co_X5_steps ml_X5_171 im_X5_steps sl_X5_steps ini_X5 nm_X5_steps (by decide) ⟨Nat.le_refl _, Nat.le_refl _⟩ (Nat.le_refl _) (Nat.le_of_ble_eq_true rfl) rfl dX5_wall_62 ?_
    refine g_iconst hX (pc := 65) (v := 0) dX5_wall_65 (by decide) ?_
    refine g_istore_n hX (pc := 66) (i := 2) (ls' := [(0, .ref o0), (1, .int x1), (2, .int 0)]) [1, 2, 0] dX5_wall_66 rfl (by decide) rfl ?_
    refine g_iconst hX (pc := 67) (v := 1) dX5_wall_67 (by decide) ?_
    refine g_istore_n hX (pc := 68) (i := 3) (ls' := [(0, .ref o0), (1, .int x1), (2, .int 0), (3, .int 1)]) [1, 2, 3, 0] dX5_wall_68 rfl (by decide) rfl ?_
    obtain ⟨p21, hpl17, h⟩ := bnd h
    have Kl17 : ∀ ql17 : Int32 × Int32 × MJ × MI, ql17 = p21 → GW E X (QX E X 0 0 (some (.int rr)) z Jz Iz) 4 91 [(0, .ref o0), (1, .int x1), (2, .int ql17.1), (3, .int ql17.2.1)] [] z ql17.2.2.1 ql17.2.2.2 0 0 := by
      intro ql17 hql17
      subst hql17
      refine g_aload_n hX (pc := 91) (i := 0) dX5_wall_91 rfl 0 rfl ?_
      refine g_iconst hX (pc := 92) (v := 0) dX5_wall_92 (by decide) ?_
      obtain ⟨I22, e_I22, h⟩ := bnd h
      refine pf5_12 hX (pc := 93) ho0 fl_X5_174 dX5_wall_93 e_I22 ?_
      refine g_iload_n hX (pc := 96) (i := 3) dX5_wall_96 rfl 3 rfl ?_
      refine g_if_ne hX (pc := 97) dX5_wall_97 (tgt := 116) (by decide) (fun c23 => ?_) (fun c23 => ?_)
      · replace h := ifP c23 h
        refine g_bipush hX (pc := 100) (v := (-2)) dX5_wall_100 (by decide) ?_
        refine g_bipush hX (pc := 102) (v := 8) dX5_wall_102 (by decide) ?_
        refine g_aload_n hX (pc := 104) (i := 0) dX5_wall_104 rfl 0 rfl ?_
        refine gf5_10 hX (pc := 105) ho0 fl_X5_136 dX5_wall_105 ?_
        refine g_imul hX (pc := 108) dX5_wall_108 ?_
        refine g_aload_n hX (pc := 109) (i := 0) dX5_wall_109 rfl 0 rfl ?_
        refine gf5_9 hX (pc := 110) ho0 fl_X5_133 dX5_wall_110 ?_
        refine g_iadd hX (pc := 113) dX5_wall_113 ?_
        refine g_isub hX (pc := 114) dX5_wall_114 ?_
        replace h := Option.some.inj h
        obtain ⟨rfl, hT0⟩ := Prod.mk.inj h
        obtain ⟨rfl, rfl⟩ := Prod.mk.inj hT0
        exact g_ireturn hX (Nat.le_refl _) (Nat.le_refl _) dX5_wall_115
      · replace h := ifN c23 h
        refine g_aload_n hX (pc := 116) (i := 0) dX5_wall_116 rfl 0 rfl ?_
        obtain ⟨r24, e_r24, h⟩ := bnd h
        refine g_callVv hX (pc := 117) (d := d + 9) hr0 [] (c := 5) (ct_X5_copies (d := d + 8) ho0 e_r24) ho0.1.1 ho0.1.2 (by decide) rfl co_X5_copies ml_X5_219 im_X5_copies sl_X5_copies ini_X5 nm_X5_copies (by decide) ⟨Nat.le_refl _, Nat.le_refl _⟩ (Nat.le_refl _) (Nat.le_of_ble_eq_true rfl) rfl dX5_wall_117 ?_
        refine g_aload_n hX (pc := 120) (i := 0) dX5_wall_120 rfl 0 rfl ?_
        refine g_iconst hX (pc := 121) (v := 0) dX5_wall_121 (by decide) ?_
        obtain ⟨I25, e_I25, h⟩ := bnd h
        refine pf5_29 hX (pc := 122) ho0 fl_X5_222 dX5_wall_122 e_I25 ?_
        refine g_aload_n hX (pc := 125) (i := 0) dX5_wall_125 rfl 0 rfl ?_
        refine gf5_31 hX (pc := 126) ho0 fl_X5_57 dX5_wall_126 ?_
        refine g_iconst hX (pc := 129) (v := 0) dX5_wall_129 (by decide) ?_
        refine g_iconst hX (pc := 130) (v := 0) dX5_wall_130 (by decide) ?_
        obtain ⟨I26, e_I26, h⟩ := bnd h
        refine g_zastoreE hX (pc := 131) (s5_31 ho0).1 (s5_31 ho0).2.1 (s5_31 ho0).2.2.1 e_I26 (by decide) dX5_wall_131 ?_
        refine g_aload_n hX (pc := 132) (i := 0) dX5_wall_132 rfl 0 rfl ?_
        refine gf5_31 hX (pc := 133) ho0 fl_X5_57 dX5_wall_133 ?_
        refine g_iconst hX (pc := 136) (v := 1) dX5_wall_136 (by decide) ?_
        refine g_iconst hX (pc := 137) (v := 0) dX5_wall_137 (by decide) ?_
        obtain ⟨I27, e_I27, h⟩ := bnd h
        refine g_zastoreE hX (pc := 138) (s5_31 ho0).1 (s5_31 ho0).2.1 (s5_31 ho0).2.2.1 e_I27 (by decide) dX5_wall_138 ?_
        refine g_iload_n hX (pc := 139) (i := 2) dX5_wall_139 rfl 2 rfl ?_
        replace h := Option.some.inj h
        obtain ⟨rfl, hT0⟩ := Prod.mk.inj h
        obtain ⟨rfl, rfl⟩ := Prod.mk.inj hT0
        exact g_ireturn hX (Nat.le_refl _) (Nat.le_refl _) dX5_wall_140
    obtain ⟨kl17, hkl17⟩ := lp_ex hpl17
    clear hpl17 h
    have Ll17 : ∀ k : Nat, ∀ (s13 : Int32) (s14 : Int32) (J15 : MJ) (I16 : MI), lpN k (b_X5_wall_69 o0) ((s13, s14, J15, I16)) = some p21 → GW E X (QX E X 0 0 (some (.int rr)) z Jz Iz) 4 69 [(0, .ref o0), (1, .int x1), (2, .int s13), (3, .int s14)] [] z J15 I16 0 0 := by
      intro k
      induction k with
      | zero => intro s13 s14 J15 I16 h; cases h
      | succ k ihl17 =>
        intro s13 s14 J15 I16 h
        obtain ⟨wl17, h, hwl17⟩ := lpN_s h
        unfold b_X5_wall_69 at h
        try dsimp only at h
        refine g_iload_n hX (pc := 69) (i := 3) dX5_wall_69 rfl 3 rfl ?_
        refine g_if_eq hX (pc := 70) dX5_wall_70 (tgt := 91) (by decide) (fun c18 => ?_) (fun c18 => ?_)
        · replace h := ifP c18 h
          obtain rfl := Option.some.inj h
          exact Kl17 ((s13, s14, J15, I16)) hwl17
        · replace h := ifN c18 h
          refine g_aload_n hX (pc := 73) (i := 0) dX5_wall_73 rfl 0 rfl ?_
          refine gf5_6 hX (pc := 74) ho0 fl_X5_109 dX5_wall_74 ?_
          refine g_if_eq hX (pc := 77) dX5_wall_77 (tgt := 91) (by decide) (fun c19 => ?_) (fun c19 => ?_)
          · replace h := ifP c19 h
            obtain rfl := Option.some.inj h
            exact Kl17 ((s13, s14, J15, I16)) hwl17
          · replace h := ifN c19 h
            refine g_aload_n hX (pc := 80) (i := 0) dX5_wall_80 rfl 0 rfl ?_
            obtain ⟨r20, e_r20, h⟩ := bnd h
            refine g_callVi hX (pc := 81) (d := d + 9) hr0 [] (c := 5) (ct_X5_lineHere (d := d + 0) ho0 e_r20 hE) ho0.1.1 ho0.1.2 (by decide) rfl co_X5_lineHere ml_X5_216 im_X5_lineHere sl_X5_lineHere ini_X5 nm_X5_lineHere (by decide) ⟨Nat.le_refl _, Nat.le_refl _⟩ (Nat.le_refl _) (Nat.le_of_ble_eq_true rfl) rfl dX5_wall_81 ?_
            refine g_istore_n hX (pc := 84) (i := 3) (ls' := [(0, .ref o0), (1, .int x1), (2, .int s13), (3, .int r20.1)]) [1, 2, 3, 0] dX5_wall_84 rfl (by decide) rfl ?_
            refine g_iinc hX (pc := 85) (i := 2) (v := s13 + 1) (ls' := [(0, .ref o0), (1, .int x1), (2, .int (s13 + 1)), (3, .int r20.1)]) 2 [1, 2, 0, 3] dX5_wall_85 rfl (by rfl) (by decide) rfl ?_
            refine g_goto hX (pc := 88) (tgt := 69) dX5_wall_88 (by decide) ?_
            obtain rfl := Option.some.inj h
            exact ihl17 (s13 + 1) r20.1 r20.2.1 r20.2.2 hwl17
    exact Ll17 kl17 0 1 r12.1 r12.2 hkl17
noncomputable def f_X5_isItem (o0 : Nat) (x1 : Int32) (J : MJ) (I : MI) : Option (Int32) :=
  (rd 2 (I (o0 + 2)) 0).bind fun v1 =>
  (f_X5_within x1.toInt64 0 ((v1 - 1).toInt64)).bind fun r2 =>
  (gb r2).bind fun b3 =>
  some r2
theorem nm_X5_isItem : yX5_isItem.cls ≠ "java/lang/invoke/MethodHandle" ∧ yX5_isItem.cls ≠ "java/lang/invoke/VarHandle" ∧ (parseMethodDescriptor yX5_isItem.desc).map (fun d => d.parameters.length) = some 1 := by decide +kernel
set_option maxRecDepth 100000 in
set_option maxHeartbeats 4000000 in
theorem ct_X5_isItem {E : Ev} {d : Nat} {z : Sh} {J : MJ} {I : MI} {o0 : Nat} {x1 : Int32} {rr : Int32} (ho0 : oX5 z o0) (h : f_X5_isItem o0 x1 J I = some rr) : Ct E (d + 1) yX5_isItem cX5_isItem 2 (some .boolean) 0 0 [.ref o0, .int x1] z J I (some (.int rr)) z J I := by
  unfold f_X5_isItem at h
  refine Ct.of (own := RX5) (ls := [(0, .ref o0), (1, .int x1)]) (by decide) rfl (Nat.le_of_ble_eq_true rfl) rfl ?_
  intro X hr0 hnm hX
  refine g_iload_n hX (pc := 0) (i := 1) dX5_isItem_0 rfl 1 rfl ?_
  refine g_i2l hX (pc := 1) dX5_isItem_1 ?_
  refine g_lconst hX (pc := 2) (v := 0) dX5_isItem_2 (by decide) ?_
  refine g_aload_n hX (pc := 3) (i := 0) dX5_isItem_3 rfl 0 rfl ?_
  refine gf5_13 hX (pc := 4) ho0 fl_X5_13 dX5_isItem_4 ?_
  refine g_iconst hX (pc := 7) (v := 0) dX5_isItem_7 (by decide) ?_
  obtain ⟨v1, e_v1, h⟩ := bnd h
  refine g_ialoadE hX (pc := 8) (s5_13 ho0).1 (s5_13 ho0).2.1 (s5_13 ho0).2.2.1 e_v1 dX5_isItem_8 ?_
  refine g_iconst hX (pc := 9) (v := 1) dX5_isItem_9 (by decide) ?_
  refine g_isub hX (pc := 10) dX5_isItem_10 ?_
  refine g_i2l hX (pc := 11) dX5_isItem_11 ?_
  obtain ⟨r2, e_r2, h⟩ := bnd h
  refine g_callSi hX (pc := 12) (d := d + 0) hr0 [.long x1.toInt64, .long 0, .long ((v1 - 1).toInt64)] (ct_X5_within (d := d + 0)  e_r2) co_X5_within ml_X5_123 sta_X5_within ini_X5 nm_X5_within (by decide) ⟨Nat.le_refl _, Nat.le_refl _⟩ (Nat.le_refl _) (Nat.le_of_ble_eq_true rfl) rfl dX5_isItem_12 ?_
  obtain ⟨b3, e_b3, h⟩ := bnd h
  obtain rfl := Option.some.inj h
  exact g_zreturn hX (gb_some e_b3).1 (Nat.le_refl _) (Nat.le_refl _) dX5_isItem_15
noncomputable def f_X5_isOrder (o0 : Nat) (x1 : Int32) (J : MJ) (I : MI) : Option (Int32) :=
  (rd 2 (I (o0 + 3)) 0).bind fun v1 =>
  (f_X5_within x1.toInt64 0 ((v1 - 1).toInt64)).bind fun r2 =>
  (gb r2).bind fun b3 =>
  some r2
theorem nm_X5_isOrder : yX5_isOrder.cls ≠ "java/lang/invoke/MethodHandle" ∧ yX5_isOrder.cls ≠ "java/lang/invoke/VarHandle" ∧ (parseMethodDescriptor yX5_isOrder.desc).map (fun d => d.parameters.length) = some 1 := by decide +kernel
set_option maxRecDepth 100000 in
set_option maxHeartbeats 4000000 in
theorem ct_X5_isOrder {E : Ev} {d : Nat} {z : Sh} {J : MJ} {I : MI} {o0 : Nat} {x1 : Int32} {rr : Int32} (ho0 : oX5 z o0) (h : f_X5_isOrder o0 x1 J I = some rr) : Ct E (d + 1) yX5_isOrder cX5_isOrder 2 (some .boolean) 0 0 [.ref o0, .int x1] z J I (some (.int rr)) z J I := by
  unfold f_X5_isOrder at h
  refine Ct.of (own := RX5) (ls := [(0, .ref o0), (1, .int x1)]) (by decide) rfl (Nat.le_of_ble_eq_true rfl) rfl ?_
  intro X hr0 hnm hX
  refine g_iload_n hX (pc := 0) (i := 1) dX5_isOrder_0 rfl 1 rfl ?_
  refine g_i2l hX (pc := 1) dX5_isOrder_1 ?_
  refine g_lconst hX (pc := 2) (v := 0) dX5_isOrder_2 (by decide) ?_
  refine g_aload_n hX (pc := 3) (i := 0) dX5_isOrder_3 rfl 0 rfl ?_
  refine gf5_14 hX (pc := 4) ho0 fl_X5_17 dX5_isOrder_4 ?_
  refine g_iconst hX (pc := 7) (v := 0) dX5_isOrder_7 (by decide) ?_
  obtain ⟨v1, e_v1, h⟩ := bnd h
  refine g_ialoadE hX (pc := 8) (s5_14 ho0).1 (s5_14 ho0).2.1 (s5_14 ho0).2.2.1 e_v1 dX5_isOrder_8 ?_
  refine g_iconst hX (pc := 9) (v := 1) dX5_isOrder_9 (by decide) ?_
  refine g_isub hX (pc := 10) dX5_isOrder_10 ?_
  refine g_i2l hX (pc := 11) dX5_isOrder_11 ?_
  obtain ⟨r2, e_r2, h⟩ := bnd h
  refine g_callSi hX (pc := 12) (d := d + 0) hr0 [.long x1.toInt64, .long 0, .long ((v1 - 1).toInt64)] (ct_X5_within (d := d + 0)  e_r2) co_X5_within ml_X5_123 sta_X5_within ini_X5 nm_X5_within (by decide) ⟨Nat.le_refl _, Nat.le_refl _⟩ (Nat.le_refl _) (Nat.le_of_ble_eq_true rfl) rfl dX5_isOrder_12 ?_
  obtain ⟨b3, e_b3, h⟩ := bnd h
  obtain rfl := Option.some.inj h
  exact g_zreturn hX (gb_some e_b3).1 (Nat.le_refl _) (Nat.le_refl _) dX5_isOrder_15
noncomputable def b_X5_sumOf_5 (o0 : Nat) (x1 : Int32) (x2 : Int32) (I : MI) (s : Int32 × Int32) : Option ((Int32 × Int32) ⊕ (Int32 × Int32)) :=
  if s.2 < 10 then
    (rd 2117 (I (o0 + 13)) ((x1 + (10 * x2)) + s.2)).bind fun v5 =>
    some (.inl ((s.1 + v5, s.2 + 1)))
  else
    some (.inr ((s.1, s.2)))
noncomputable def f_X5_sumOf (o0 : Nat) (x1 : Int32) (x2 : Int32) (J : MJ) (I : MI) : Option (Int32) :=
  (lp (b_X5_sumOf_5 o0 x1 x2 I) ((0, 0))).bind fun p6 =>
  some p6.1
theorem nm_X5_sumOf : yX5_sumOf.cls ≠ "java/lang/invoke/MethodHandle" ∧ yX5_sumOf.cls ≠ "java/lang/invoke/VarHandle" ∧ (parseMethodDescriptor yX5_sumOf.desc).map (fun d => d.parameters.length) = some 2 := by decide +kernel
set_option maxRecDepth 100000 in
set_option maxHeartbeats 4000000 in
theorem ct_X5_sumOf {E : Ev} {d : Nat} {z : Sh} {J : MJ} {I : MI} {o0 : Nat} {x1 : Int32} {x2 : Int32} {rr : Int32} (ho0 : oX5 z o0) (h : f_X5_sumOf o0 x1 x2 J I = some rr) : Ct E (d + 0) yX5_sumOf cX5_sumOf 5 (some .int) 0 0 [.ref o0, .int x1, .int x2] z J I (some (.int rr)) z J I := by
  unfold f_X5_sumOf at h
  refine Ct.of (own := RX5) (ls := [(0, .ref o0), (1, .int x1), (2, .int x2)]) (by decide) rfl (Nat.le_of_ble_eq_true rfl) rfl ?_
  intro X hr0 hnm hX
  refine g_iconst hX (pc := 0) (v := 0) dX5_sumOf_0 (by decide) ?_
  refine g_istore_n hX (pc := 1) (i := 3) (ls' := [(0, .ref o0), (1, .int x1), (2, .int x2), (3, .int 0)]) [1, 2, 3, 0] dX5_sumOf_1 rfl (by decide) rfl ?_
  refine g_iconst hX (pc := 2) (v := 0) dX5_sumOf_2 (by decide) ?_
  refine g_istore hX (pc := 3) (ls' := [(0, .ref o0), (1, .int x1), (2, .int x2), (3, .int 0), (4, .int 0)]) [1, 2, 3, 4, 0] dX5_sumOf_3 (by decide) rfl ?_
  obtain ⟨p6, hpl3, h⟩ := bnd h
  have Kl3 : ∀ ql3 : Int32 × Int32, ql3 = p6 → GW E X (QX E X 0 0 (some (.int rr)) z J I) 5 35 [(0, .ref o0), (1, .int x1), (2, .int x2), (3, .int ql3.1), (4, .int ql3.2)] [] z J I 0 0 := by
    intro ql3 hql3
    subst hql3
    refine g_iload_n hX (pc := 35) (i := 3) dX5_sumOf_35 rfl 3 rfl ?_
    obtain rfl := Option.some.inj h
    exact g_ireturn hX (Nat.le_refl _) (Nat.le_refl _) dX5_sumOf_36
  obtain ⟨kl3, hkl3⟩ := lp_ex hpl3
  clear hpl3 h
  have Ll3 : ∀ k : Nat, ∀ (s1 : Int32) (s2 : Int32), lpN k (b_X5_sumOf_5 o0 x1 x2 I) ((s1, s2)) = some p6 → GW E X (QX E X 0 0 (some (.int rr)) z J I) 5 5 [(0, .ref o0), (1, .int x1), (2, .int x2), (3, .int s1), (4, .int s2)] [] z J I 0 0 := by
    intro k
    induction k with
    | zero => intro s1 s2 h; cases h
    | succ k ihl3 =>
      intro s1 s2 h
      obtain ⟨wl3, h, hwl3⟩ := lpN_s h
      unfold b_X5_sumOf_5 at h
      try dsimp only at h
      refine g_iload hX (pc := 5) dX5_sumOf_5 4 rfl ?_
      refine g_bipush hX (pc := 7) (v := 10) dX5_sumOf_7 (by decide) ?_
      refine g_icmp_ge hX (pc := 9) dX5_sumOf_9 (tgt := 35) (by decide) (fun c4 => ?_) (fun c4 => ?_)
      · replace h := ifP c4 h
        refine g_iload_n hX (pc := 12) (i := 3) dX5_sumOf_12 rfl 3 rfl ?_
        refine g_aload_n hX (pc := 13) (i := 0) dX5_sumOf_13 rfl 0 rfl ?_
        refine gf5_27 hX (pc := 14) ho0 fl_X5_48 dX5_sumOf_14 ?_
        refine g_iload_n hX (pc := 17) (i := 1) dX5_sumOf_17 rfl 1 rfl ?_
        refine g_bipush hX (pc := 18) (v := 10) dX5_sumOf_18 (by decide) ?_
        refine g_iload_n hX (pc := 20) (i := 2) dX5_sumOf_20 rfl 2 rfl ?_
        refine g_imul hX (pc := 21) dX5_sumOf_21 ?_
        refine g_iadd hX (pc := 22) dX5_sumOf_22 ?_
        refine g_iload hX (pc := 23) dX5_sumOf_23 4 rfl ?_
        refine g_iadd hX (pc := 25) dX5_sumOf_25 ?_
        obtain ⟨v5, e_v5, h⟩ := bnd h
        refine g_ialoadE hX (pc := 26) (s5_27 ho0).1 (s5_27 ho0).2.1 (s5_27 ho0).2.2.1 e_v5 dX5_sumOf_26 ?_
        refine g_iadd hX (pc := 27) dX5_sumOf_27 ?_
        refine g_istore_n hX (pc := 28) (i := 3) (ls' := [(0, .ref o0), (1, .int x1), (2, .int x2), (3, .int (s1 + v5)), (4, .int s2)]) [1, 2, 3, 0, 4] dX5_sumOf_28 rfl (by decide) rfl ?_
        refine g_iinc hX (pc := 29) (i := 4) (v := s2 + 1) (ls' := [(0, .ref o0), (1, .int x1), (2, .int x2), (3, .int (s1 + v5)), (4, .int (s2 + 1))]) 4 [1, 2, 3, 4, 0] dX5_sumOf_29 rfl (by rfl) (by decide) rfl ?_
        refine g_goto hX (pc := 32) (tgt := 5) dX5_sumOf_32 (by decide) ?_
        obtain rfl := Option.some.inj h
        exact ihl3 (s1 + v5) (s2 + 1) hwl3
      · replace h := ifN c4 h
        obtain rfl := Option.some.inj h
        exact Kl3 ((s1, s2)) hwl3
  exact Ll3 kl3 0 0 hkl3
noncomputable def b_X5_needOf_4 (o0 : Nat) (x1 : Int32) (I : MI) (s : Int32 × Int32) : Option ((Int32 × Int32) ⊕ (Int32 × Int32)) :=
  if s.2 < 10 then
    (rd 320 (I (o0 + 12)) ((10 * x1) + s.2)).bind fun v5 =>
    some (.inl ((s.1 + v5, s.2 + 1)))
  else
    some (.inr ((s.1, s.2)))
noncomputable def f_X5_needOf (o0 : Nat) (x1 : Int32) (J : MJ) (I : MI) : Option (Int32) :=
  (lp (b_X5_needOf_4 o0 x1 I) ((0, 0))).bind fun p6 =>
  some p6.1
theorem nm_X5_needOf : yX5_needOf.cls ≠ "java/lang/invoke/MethodHandle" ∧ yX5_needOf.cls ≠ "java/lang/invoke/VarHandle" ∧ (parseMethodDescriptor yX5_needOf.desc).map (fun d => d.parameters.length) = some 1 := by decide +kernel
set_option maxRecDepth 100000 in
set_option maxHeartbeats 4000000 in
theorem ct_X5_needOf {E : Ev} {d : Nat} {z : Sh} {J : MJ} {I : MI} {o0 : Nat} {x1 : Int32} {rr : Int32} (ho0 : oX5 z o0) (h : f_X5_needOf o0 x1 J I = some rr) : Ct E (d + 0) yX5_needOf cX5_needOf 4 (some .int) 0 0 [.ref o0, .int x1] z J I (some (.int rr)) z J I := by
  unfold f_X5_needOf at h
  refine Ct.of (own := RX5) (ls := [(0, .ref o0), (1, .int x1)]) (by decide) rfl (Nat.le_of_ble_eq_true rfl) rfl ?_
  intro X hr0 hnm hX
  refine g_iconst hX (pc := 0) (v := 0) dX5_needOf_0 (by decide) ?_
  refine g_istore_n hX (pc := 1) (i := 2) (ls' := [(0, .ref o0), (1, .int x1), (2, .int 0)]) [1, 2, 0] dX5_needOf_1 rfl (by decide) rfl ?_
  refine g_iconst hX (pc := 2) (v := 0) dX5_needOf_2 (by decide) ?_
  refine g_istore_n hX (pc := 3) (i := 3) (ls' := [(0, .ref o0), (1, .int x1), (2, .int 0), (3, .int 0)]) [1, 2, 3, 0] dX5_needOf_3 rfl (by decide) rfl ?_
  obtain ⟨p6, hpl3, h⟩ := bnd h
  have Kl3 : ∀ ql3 : Int32 × Int32, ql3 = p6 → GW E X (QX E X 0 0 (some (.int rr)) z J I) 4 30 [(0, .ref o0), (1, .int x1), (2, .int ql3.1), (3, .int ql3.2)] [] z J I 0 0 := by
    intro ql3 hql3
    subst hql3
    refine g_iload_n hX (pc := 30) (i := 2) dX5_needOf_30 rfl 2 rfl ?_
    obtain rfl := Option.some.inj h
    exact g_ireturn hX (Nat.le_refl _) (Nat.le_refl _) dX5_needOf_31
  obtain ⟨kl3, hkl3⟩ := lp_ex hpl3
  clear hpl3 h
  have Ll3 : ∀ k : Nat, ∀ (s1 : Int32) (s2 : Int32), lpN k (b_X5_needOf_4 o0 x1 I) ((s1, s2)) = some p6 → GW E X (QX E X 0 0 (some (.int rr)) z J I) 4 4 [(0, .ref o0), (1, .int x1), (2, .int s1), (3, .int s2)] [] z J I 0 0 := by
    intro k
    induction k with
    | zero => intro s1 s2 h; cases h
    | succ k ihl3 =>
      intro s1 s2 h
      obtain ⟨wl3, h, hwl3⟩ := lpN_s h
      unfold b_X5_needOf_4 at h
      try dsimp only at h
      refine g_iload_n hX (pc := 4) (i := 3) dX5_needOf_4 rfl 3 rfl ?_
      refine g_bipush hX (pc := 5) (v := 10) dX5_needOf_5 (by decide) ?_
      refine g_icmp_ge hX (pc := 7) dX5_needOf_7 (tgt := 30) (by decide) (fun c4 => ?_) (fun c4 => ?_)
      · replace h := ifP c4 h
        refine g_iload_n hX (pc := 10) (i := 2) dX5_needOf_10 rfl 2 rfl ?_
        refine g_aload_n hX (pc := 11) (i := 0) dX5_needOf_11 rfl 0 rfl ?_
        refine gf5_23 hX (pc := 12) ho0 fl_X5_45 dX5_needOf_12 ?_
        refine g_bipush hX (pc := 15) (v := 10) dX5_needOf_15 (by decide) ?_
        refine g_iload_n hX (pc := 17) (i := 1) dX5_needOf_17 rfl 1 rfl ?_
        refine g_imul hX (pc := 18) dX5_needOf_18 ?_
        refine g_iload_n hX (pc := 19) (i := 3) dX5_needOf_19 rfl 3 rfl ?_
        refine g_iadd hX (pc := 20) dX5_needOf_20 ?_
        obtain ⟨v5, e_v5, h⟩ := bnd h
        refine g_ialoadE hX (pc := 21) (s5_23 ho0).1 (s5_23 ho0).2.1 (s5_23 ho0).2.2.1 e_v5 dX5_needOf_21 ?_
        refine g_iadd hX (pc := 22) dX5_needOf_22 ?_
        refine g_istore_n hX (pc := 23) (i := 2) (ls' := [(0, .ref o0), (1, .int x1), (2, .int (s1 + v5)), (3, .int s2)]) [1, 2, 0, 3] dX5_needOf_23 rfl (by decide) rfl ?_
        refine g_iinc hX (pc := 24) (i := 3) (v := s2 + 1) (ls' := [(0, .ref o0), (1, .int x1), (2, .int (s1 + v5)), (3, .int (s2 + 1))]) 3 [1, 2, 3, 0] dX5_needOf_24 rfl (by rfl) (by decide) rfl ?_
        refine g_goto hX (pc := 27) (tgt := 4) dX5_needOf_27 (by decide) ?_
        obtain rfl := Option.some.inj h
        exact ihl3 (s1 + v5) (s2 + 1) hwl3
      · replace h := ifN c4 h
        obtain rfl := Option.some.inj h
        exact Kl3 ((s1, s2)) hwl3
  exact Ll3 kl3 0 0 hkl3
noncomputable def b_X5_lateOf_4 (o0 : Nat) (x1 : Int32) (I : MI) (s : Int32 × Int32) : Option ((Int32 × Int32) ⊕ (Int32 × Int32)) :=
  (rd 2 (I (o0 + 3)) 0).bind fun v4 =>
  if s.2 < v4 then
    (rd 2117 (I (o0 + 13)) ((170 + (10 * s.2)) + x1)).bind fun v6 =>
    some (.inl ((s.1 + v6, s.2 + 1)))
  else
    some (.inr ((s.1, s.2)))
noncomputable def f_X5_lateOf (o0 : Nat) (x1 : Int32) (J : MJ) (I : MI) : Option (Int32) :=
  (lp (b_X5_lateOf_4 o0 x1 I) ((0, 0))).bind fun p7 =>
  some p7.1
theorem nm_X5_lateOf : yX5_lateOf.cls ≠ "java/lang/invoke/MethodHandle" ∧ yX5_lateOf.cls ≠ "java/lang/invoke/VarHandle" ∧ (parseMethodDescriptor yX5_lateOf.desc).map (fun d => d.parameters.length) = some 1 := by decide +kernel
set_option maxRecDepth 100000 in
set_option maxHeartbeats 4000000 in
theorem ct_X5_lateOf {E : Ev} {d : Nat} {z : Sh} {J : MJ} {I : MI} {o0 : Nat} {x1 : Int32} {rr : Int32} (ho0 : oX5 z o0) (h : f_X5_lateOf o0 x1 J I = some rr) : Ct E (d + 0) yX5_lateOf cX5_lateOf 4 (some .int) 0 0 [.ref o0, .int x1] z J I (some (.int rr)) z J I := by
  unfold f_X5_lateOf at h
  refine Ct.of (own := RX5) (ls := [(0, .ref o0), (1, .int x1)]) (by decide) rfl (Nat.le_of_ble_eq_true rfl) rfl ?_
  intro X hr0 hnm hX
  refine g_iconst hX (pc := 0) (v := 0) dX5_lateOf_0 (by decide) ?_
  refine g_istore_n hX (pc := 1) (i := 2) (ls' := [(0, .ref o0), (1, .int x1), (2, .int 0)]) [1, 2, 0] dX5_lateOf_1 rfl (by decide) rfl ?_
  refine g_iconst hX (pc := 2) (v := 0) dX5_lateOf_2 (by decide) ?_
  refine g_istore_n hX (pc := 3) (i := 3) (ls' := [(0, .ref o0), (1, .int x1), (2, .int 0), (3, .int 0)]) [1, 2, 3, 0] dX5_lateOf_3 rfl (by decide) rfl ?_
  obtain ⟨p7, hpl3, h⟩ := bnd h
  have Kl3 : ∀ ql3 : Int32 × Int32, ql3 = p7 → GW E X (QX E X 0 0 (some (.int rr)) z J I) 4 38 [(0, .ref o0), (1, .int x1), (2, .int ql3.1), (3, .int ql3.2)] [] z J I 0 0 := by
    intro ql3 hql3
    subst hql3
    refine g_iload_n hX (pc := 38) (i := 2) dX5_lateOf_38 rfl 2 rfl ?_
    obtain rfl := Option.some.inj h
    exact g_ireturn hX (Nat.le_refl _) (Nat.le_refl _) dX5_lateOf_39
  obtain ⟨kl3, hkl3⟩ := lp_ex hpl3
  clear hpl3 h
  have Ll3 : ∀ k : Nat, ∀ (s1 : Int32) (s2 : Int32), lpN k (b_X5_lateOf_4 o0 x1 I) ((s1, s2)) = some p7 → GW E X (QX E X 0 0 (some (.int rr)) z J I) 4 4 [(0, .ref o0), (1, .int x1), (2, .int s1), (3, .int s2)] [] z J I 0 0 := by
    intro k
    induction k with
    | zero => intro s1 s2 h; cases h
    | succ k ihl3 =>
      intro s1 s2 h
      obtain ⟨wl3, h, hwl3⟩ := lpN_s h
      unfold b_X5_lateOf_4 at h
      try dsimp only at h
      refine g_iload_n hX (pc := 4) (i := 3) dX5_lateOf_4 rfl 3 rfl ?_
      refine g_aload_n hX (pc := 5) (i := 0) dX5_lateOf_5 rfl 0 rfl ?_
      refine gf5_14 hX (pc := 6) ho0 fl_X5_17 dX5_lateOf_6 ?_
      refine g_iconst hX (pc := 9) (v := 0) dX5_lateOf_9 (by decide) ?_
      obtain ⟨v4, e_v4, h⟩ := bnd h
      refine g_ialoadE hX (pc := 10) (s5_14 ho0).1 (s5_14 ho0).2.1 (s5_14 ho0).2.2.1 e_v4 dX5_lateOf_10 ?_
      refine g_icmp_ge hX (pc := 11) dX5_lateOf_11 (tgt := 38) (by decide) (fun c5 => ?_) (fun c5 => ?_)
      · replace h := ifP c5 h
        refine g_iload_n hX (pc := 14) (i := 2) dX5_lateOf_14 rfl 2 rfl ?_
        refine g_aload_n hX (pc := 15) (i := 0) dX5_lateOf_15 rfl 0 rfl ?_
        refine gf5_27 hX (pc := 16) ho0 fl_X5_48 dX5_lateOf_16 ?_
        refine g_sipush hX (pc := 19) (v := 170) dX5_lateOf_19 (by decide) ?_
        refine g_bipush hX (pc := 22) (v := 10) dX5_lateOf_22 (by decide) ?_
        refine g_iload_n hX (pc := 24) (i := 3) dX5_lateOf_24 rfl 3 rfl ?_
        refine g_imul hX (pc := 25) dX5_lateOf_25 ?_
        refine g_iadd hX (pc := 26) dX5_lateOf_26 ?_
        refine g_iload_n hX (pc := 27) (i := 1) dX5_lateOf_27 rfl 1 rfl ?_
        refine g_iadd hX (pc := 28) dX5_lateOf_28 ?_
        obtain ⟨v6, e_v6, h⟩ := bnd h
        refine g_ialoadE hX (pc := 29) (s5_27 ho0).1 (s5_27 ho0).2.1 (s5_27 ho0).2.2.1 e_v6 dX5_lateOf_29 ?_
        refine g_iadd hX (pc := 30) dX5_lateOf_30 ?_
        refine g_istore_n hX (pc := 31) (i := 2) (ls' := [(0, .ref o0), (1, .int x1), (2, .int (s1 + v6)), (3, .int s2)]) [1, 2, 0, 3] dX5_lateOf_31 rfl (by decide) rfl ?_
        refine g_iinc hX (pc := 32) (i := 3) (v := s2 + 1) (ls' := [(0, .ref o0), (1, .int x1), (2, .int (s1 + v6)), (3, .int (s2 + 1))]) 3 [1, 2, 3, 0] dX5_lateOf_32 rfl (by rfl) (by decide) rfl ?_
        refine g_goto hX (pc := 35) (tgt := 4) dX5_lateOf_35 (by decide) ?_
        obtain rfl := Option.some.inj h
        exact ihl3 (s1 + v6) (s2 + 1) hwl3
      · replace h := ifN c5 h
        obtain rfl := Option.some.inj h
        exact Kl3 ((s1, s2)) hwl3
  exact Ll3 kl3 0 0 hkl3
noncomputable def f_X5_item (o0 : Nat) (x1 : Int32) (x2 : Int32) (J : MJ) (I : MI) : Option (Int32 × MI) :=
  (wf I o0 0 0).bind fun I1 =>
  (f_X5_isItem o0 x1 J I1).bind fun r2 =>
  if r2 = 0 then
    some (((-1), I1))
  else
    (if x2 = 0 then
      (rd 20 (I1 (o0 + 8)) x1).bind fun v6 =>
      some v6
    else
      if x2 = 1 then
        (rd 2117 (I1 (o0 + 13)) x1).bind fun v8 =>
        some v8
      else
        if x2 = 2 then
          (f_X5_lateOf o0 x1 J I1).bind fun r10 =>
          some r10
        else
          some ((-1))).bind fun (p11 : Int32) =>
    some ((p11, I1))
theorem nm_X5_item : yX5_item.cls ≠ "java/lang/invoke/MethodHandle" ∧ yX5_item.cls ≠ "java/lang/invoke/VarHandle" ∧ (parseMethodDescriptor yX5_item.desc).map (fun d => d.parameters.length) = some 2 := by decide +kernel
set_option maxRecDepth 100000 in
set_option maxHeartbeats 4000000 in
theorem ct_X5_item {E : Ev} {d : Nat} {z : Sh} {J : MJ} {I : MI} {o0 : Nat} {x1 : Int32} {x2 : Int32} {rr : Int32} {Iz : MI} (ho0 : oX5 z o0) (h : f_X5_item o0 x1 x2 J I = some ((rr, Iz))) : Ct E (d + 2) yX5_item cX5_item 3 (some .int) 0 0 [.ref o0, .int x1, .int x2] z J I (some (.int rr)) z J Iz := by
  unfold f_X5_item at h
  refine Ct.of (own := RX5) (ls := [(0, .ref o0), (1, .int x1), (2, .int x2)]) (by decide) rfl (Nat.le_of_ble_eq_true rfl) rfl ?_
  intro X hr0 hnm hX
  refine g_aload_n hX (pc := 0) (i := 0) dX5_item_0 rfl 0 rfl ?_
  refine g_iconst hX (pc := 1) (v := 0) dX5_item_1 (by decide) ?_
  obtain ⟨I1, e_I1, h⟩ := bnd h
  refine pf5_0 hX (pc := 2) ho0 fl_X5_86 dX5_item_2 e_I1 ?_
  refine g_aload_n hX (pc := 5) (i := 0) dX5_item_5 rfl 0 rfl ?_
  refine g_iload_n hX (pc := 6) (i := 1) dX5_item_6 rfl 1 rfl ?_
  obtain ⟨r2, e_r2, h⟩ := bnd h
  refine g_callVi hX (pc := 7) (d := d + 1) hr0 [.int x1] (c := 5) (ct_X5_isItem (d := d + 0) ho0 e_r2) ho0.1.1 ho0.1.2 (by decide) rfl co_X5_isItem ml_X5_225 im_X5_isItem sl_X5_isItem ini_X5 nm_X5_isItem (by decide) ⟨Nat.le_refl _, Nat.le_refl _⟩ (Nat.le_refl _) (Nat.le_of_ble_eq_true rfl) rfl dX5_item_7 ?_
  refine g_if_ne hX (pc := 10) dX5_item_10 (tgt := 15) (by decide) (fun c3 => ?_) (fun c3 => ?_)
  · replace h := ifP c3 h
    refine g_iconst hX (pc := 13) (v := (-1)) dX5_item_13 (by decide) ?_
    replace h := Option.some.inj h
    obtain ⟨rfl, rfl⟩ := Prod.mk.inj h
    exact g_ireturn hX (Nat.le_refl _) (Nat.le_refl _) dX5_item_14
  · replace h := ifN c3 h
    refine g_iload_n hX (pc := 15) (i := 2) dX5_item_15 rfl 2 rfl ?_
    obtain ⟨p11, hpj5, h⟩ := bnd h
    have Kj5 : ∀ qj5 : Int32, qj5 = p11 → GW E X (QX E X 0 0 (some (.int rr)) z J Iz) 3 56 [(0, .ref o0), (1, .int x1), (2, .int x2)] [.int qj5] z J I1 0 0 := by
      intro qj5 hqj5
      subst hqj5
      replace h := Option.some.inj h
      obtain ⟨rfl, rfl⟩ := Prod.mk.inj h
      exact g_ireturn hX (Nat.le_refl _) (Nat.le_refl _) dX5_item_56
    replace h := hpj5
    clear hpj5
    refine g_if_ne hX (pc := 16) dX5_item_16 (tgt := 28) (by decide) (fun c4 => ?_) (fun c4 => ?_)
    · replace h := ifP c4 h
      refine g_aload_n hX (pc := 19) (i := 0) dX5_item_19 rfl 0 rfl ?_
      refine gf5_19 hX (pc := 20) ho0 fl_X5_33 dX5_item_20 ?_
      refine g_iload_n hX (pc := 23) (i := 1) dX5_item_23 rfl 1 rfl ?_
      obtain ⟨v6, e_v6, h⟩ := bnd h
      refine g_ialoadE hX (pc := 24) (s5_19 ho0).1 (s5_19 ho0).2.1 (s5_19 ho0).2.2.1 e_v6 dX5_item_24 ?_
      refine g_goto hX (pc := 25) (tgt := 56) dX5_item_25 (by decide) ?_
      exact Kj5 v6 (Option.some.inj h)
    · replace h := ifN c4 h
      refine g_iload_n hX (pc := 28) (i := 2) dX5_item_28 rfl 2 rfl ?_
      refine g_iconst hX (pc := 29) (v := 1) dX5_item_29 (by decide) ?_
      refine g_icmp_ne hX (pc := 30) dX5_item_30 (tgt := 42) (by decide) (fun c7 => ?_) (fun c7 => ?_)
      · replace h := ifP c7 h
        refine g_aload_n hX (pc := 33) (i := 0) dX5_item_33 rfl 0 rfl ?_
        refine gf5_27 hX (pc := 34) ho0 fl_X5_48 dX5_item_34 ?_
        refine g_iload_n hX (pc := 37) (i := 1) dX5_item_37 rfl 1 rfl ?_
        obtain ⟨v8, e_v8, h⟩ := bnd h
        refine g_ialoadE hX (pc := 38) (s5_27 ho0).1 (s5_27 ho0).2.1 (s5_27 ho0).2.2.1 e_v8 dX5_item_38 ?_
        refine g_goto hX (pc := 39) (tgt := 56) dX5_item_39 (by decide) ?_
        exact Kj5 v8 (Option.some.inj h)
      · replace h := ifN c7 h
        refine g_iload_n hX (pc := 42) (i := 2) dX5_item_42 rfl 2 rfl ?_
        refine g_iconst hX (pc := 43) (v := 2) dX5_item_43 (by decide) ?_
        refine g_icmp_ne hX (pc := 44) dX5_item_44 (tgt := 55) (by decide) (fun c9 => ?_) (fun c9 => ?_)
        · replace h := ifP c9 h
          refine g_aload_n hX (pc := 47) (i := 0) dX5_item_47 rfl 0 rfl ?_
          refine g_iload_n hX (pc := 48) (i := 1) dX5_item_48 rfl 1 rfl ?_
          obtain ⟨r10, e_r10, h⟩ := bnd h
          refine g_callVi hX (pc := 49) (d := d + 1) hr0 [.int x1] (c := 5) (ct_X5_lateOf (d := d + 1) ho0 e_r10) ho0.1.1 ho0.1.2 (by decide) rfl co_X5_lateOf ml_X5_229 im_X5_lateOf sl_X5_lateOf ini_X5 nm_X5_lateOf (by decide) ⟨Nat.le_refl _, Nat.le_refl _⟩ (Nat.le_refl _) (Nat.le_of_ble_eq_true rfl) rfl dX5_item_49 ?_
          refine g_goto hX (pc := 52) (tgt := 56) dX5_item_52 (by decide) ?_
          exact Kj5 r10 (Option.some.inj h)
        · replace h := ifN c9 h
          refine g_iconst hX (pc := 55) (v := (-1)) dX5_item_55 (by decide) ?_
          exact Kj5 ((-1)) (Option.some.inj h)
noncomputable def f_X5_order (o0 : Nat) (x1 : Int32) (x2 : Int32) (J : MJ) (I : MI) : Option (Int32 × MI) :=
  (f_X5_isOrder o0 x1 J I).bind fun r1 =>
  (if r1 = 0 then
    some 1
  else
    (f_X5_within x2.toInt64 0 5).bind fun r4 =>
    if r4 = 0 then
      some 1
    else
      some 0).bind fun (p6 : Int32) =>
  (wf I o0 0 p6).bind fun I7 =>
  if (I7 o0 0) = 1 then
    some ((0, I7))
  else
    if x2 = 0 then
      (rd 32 (I7 (o0 + 11)) x1).bind fun v10 =>
      some ((v10, I7))
    else
      if x2 = 1 then
        (f_X5_needOf o0 x1 J I7).bind fun r12 =>
        some ((r12, I7))
      else
        if x2 = 2 then
          (f_X5_sumOf o0 10 x1 J I7).bind fun r14 =>
          some ((r14, I7))
        else
          if x2 = 3 then
            (f_X5_sumOf o0 170 x1 J I7).bind fun r16 =>
            some ((r16, I7))
          else
            if x2 = 4 then
              (rd 2117 (I7 (o0 + 13)) (330 + x1)).bind fun v18 =>
              some ((v18, I7))
            else
              (rd 2117 (I7 (o0 + 13)) (346 + x1)).bind fun v19 =>
              some ((v19, I7))
theorem nm_X5_order : yX5_order.cls ≠ "java/lang/invoke/MethodHandle" ∧ yX5_order.cls ≠ "java/lang/invoke/VarHandle" ∧ (parseMethodDescriptor yX5_order.desc).map (fun d => d.parameters.length) = some 2 := by decide +kernel
set_option maxRecDepth 100000 in
set_option maxHeartbeats 4000000 in
theorem ct_X5_order {E : Ev} {d : Nat} {z : Sh} {J : MJ} {I : MI} {o0 : Nat} {x1 : Int32} {x2 : Int32} {rr : Int32} {Iz : MI} (ho0 : oX5 z o0) (h : f_X5_order o0 x1 x2 J I = some ((rr, Iz))) : Ct E (d + 2) yX5_order cX5_order 3 (some .int) 0 0 [.ref o0, .int x1, .int x2] z J I (some (.int rr)) z J Iz := by
  unfold f_X5_order at h
  refine Ct.of (own := RX5) (ls := [(0, .ref o0), (1, .int x1), (2, .int x2)]) (by decide) rfl (Nat.le_of_ble_eq_true rfl) rfl ?_
  intro X hr0 hnm hX
  refine g_aload_n hX (pc := 0) (i := 0) dX5_order_0 rfl 0 rfl ?_
  refine g_aload_n hX (pc := 1) (i := 0) dX5_order_1 rfl 0 rfl ?_
  refine g_iload_n hX (pc := 2) (i := 1) dX5_order_2 rfl 1 rfl ?_
  obtain ⟨r1, e_r1, h⟩ := bnd h
  refine g_callVi hX (pc := 3) (d := d + 1) hr0 [.int x1] (c := 5) (ct_X5_isOrder (d := d + 0) ho0 e_r1) ho0.1.1 ho0.1.2 (by decide) rfl co_X5_isOrder ml_X5_232 im_X5_isOrder sl_X5_isOrder ini_X5 nm_X5_isOrder (by decide) ⟨Nat.le_refl _, Nat.le_refl _⟩ (Nat.le_refl _) (Nat.le_of_ble_eq_true rfl) rfl dX5_order_3 ?_
  obtain ⟨p6, hpj3, h⟩ := bnd h
  have Kj3 : ∀ qj3 : Int32, qj3 = p6 → GW E X (QX E X 0 0 (some (.int rr)) z J Iz) 3 26 [(0, .ref o0), (1, .int x1), (2, .int x2)] [.int qj3, .ref o0] z J I 0 0 := by
    intro qj3 hqj3
    subst hqj3
    obtain ⟨I7, e_I7, h⟩ := bnd h
    refine pf5_0 hX (pc := 26) ho0 fl_X5_86 dX5_order_26 e_I7 ?_
    refine g_aload_n hX (pc := 29) (i := 0) dX5_order_29 rfl 0 rfl ?_
    refine gf5_0 hX (pc := 30) ho0 fl_X5_86 dX5_order_30 ?_
    refine g_iconst hX (pc := 33) (v := 1) dX5_order_33 (by decide) ?_
    refine g_icmp_ne hX (pc := 34) dX5_order_34 (tgt := 39) (by decide) (fun c8 => ?_) (fun c8 => ?_)
    · replace h := ifP c8 h
      refine g_iconst hX (pc := 37) (v := 0) dX5_order_37 (by decide) ?_
      replace h := Option.some.inj h
      obtain ⟨rfl, rfl⟩ := Prod.mk.inj h
      exact g_ireturn hX (Nat.le_refl _) (Nat.le_refl _) dX5_order_38
    · replace h := ifN c8 h
      refine g_iload_n hX (pc := 39) (i := 2) dX5_order_39 rfl 2 rfl ?_
      by_cases c9 : x2 = 0
      · replace h := ifP c9 h
        refine g_tableIn hX (pc := 40) (tgt := 76) (off := 36) dX5_order_40 (by rw [c9]; decide) (by rw [c9]; decide) (by rw [c9]; rfl) (by decide) ?_
        refine g_aload_n hX (pc := 76) (i := 0) dX5_order_76 rfl 0 rfl ?_
        refine gf5_22 hX (pc := 77) ho0 fl_X5_42 dX5_order_77 ?_
        refine g_iload_n hX (pc := 80) (i := 1) dX5_order_80 rfl 1 rfl ?_
        obtain ⟨v10, e_v10, h⟩ := bnd h
        refine g_ialoadE hX (pc := 81) (s5_22 ho0).1 (s5_22 ho0).2.1 (s5_22 ho0).2.2.1 e_v10 dX5_order_81 ?_
        replace h := Option.some.inj h
        obtain ⟨rfl, rfl⟩ := Prod.mk.inj h
        exact g_ireturn hX (Nat.le_refl _) (Nat.le_refl _) dX5_order_82
      · replace h := ifN c9 h
        by_cases c11 : x2 = 1
        · replace h := ifP c11 h
          refine g_tableIn hX (pc := 40) (tgt := 83) (off := 43) dX5_order_40 (by rw [c11]; decide) (by rw [c11]; decide) (by rw [c11]; rfl) (by decide) ?_
          refine g_aload_n hX (pc := 83) (i := 0) dX5_order_83 rfl 0 rfl ?_
          refine g_iload_n hX (pc := 84) (i := 1) dX5_order_84 rfl 1 rfl ?_
          obtain ⟨r12, e_r12, h⟩ := bnd h
          refine g_callVi hX (pc := 85) (d := d + 1) hr0 [.int x1] (c := 5) (ct_X5_needOf (d := d + 1) ho0 e_r12) ho0.1.1 ho0.1.2 (by decide) rfl co_X5_needOf ml_X5_237 im_X5_needOf sl_X5_needOf ini_X5 nm_X5_needOf (by decide) ⟨Nat.le_refl _, Nat.le_refl _⟩ (Nat.le_refl _) (Nat.le_of_ble_eq_true rfl) rfl dX5_order_85 ?_
          replace h := Option.some.inj h
          obtain ⟨rfl, rfl⟩ := Prod.mk.inj h
          exact g_ireturn hX (Nat.le_refl _) (Nat.le_refl _) dX5_order_88
        · replace h := ifN c11 h
          by_cases c13 : x2 = 2
          · replace h := ifP c13 h
            refine g_tableIn hX (pc := 40) (tgt := 89) (off := 49) dX5_order_40 (by rw [c13]; decide) (by rw [c13]; decide) (by rw [c13]; rfl) (by decide) ?_
            refine g_aload_n hX (pc := 89) (i := 0) dX5_order_89 rfl 0 rfl ?_
            refine g_bipush hX (pc := 90) (v := 10) dX5_order_90 (by decide) ?_
            refine g_iload_n hX (pc := 92) (i := 1) dX5_order_92 rfl 1 rfl ?_
            obtain ⟨r14, e_r14, h⟩ := bnd h
            refine g_callVi hX (pc := 93) (d := d + 1) hr0 [.int 10, .int x1] (c := 5) (ct_X5_sumOf (d := d + 1) ho0 e_r14) ho0.1.1 ho0.1.2 (by decide) rfl co_X5_sumOf ml_X5_240 im_X5_sumOf sl_X5_sumOf ini_X5 nm_X5_sumOf (by decide) ⟨Nat.le_refl _, Nat.le_refl _⟩ (Nat.le_refl _) (Nat.le_of_ble_eq_true rfl) rfl dX5_order_93 ?_
            replace h := Option.some.inj h
            obtain ⟨rfl, rfl⟩ := Prod.mk.inj h
            exact g_ireturn hX (Nat.le_refl _) (Nat.le_refl _) dX5_order_96
          · replace h := ifN c13 h
            by_cases c15 : x2 = 3
            · replace h := ifP c15 h
              refine g_tableIn hX (pc := 40) (tgt := 97) (off := 57) dX5_order_40 (by rw [c15]; decide) (by rw [c15]; decide) (by rw [c15]; rfl) (by decide) ?_
              refine g_aload_n hX (pc := 97) (i := 0) dX5_order_97 rfl 0 rfl ?_
              refine g_sipush hX (pc := 98) (v := 170) dX5_order_98 (by decide) ?_
              refine g_iload_n hX (pc := 101) (i := 1) dX5_order_101 rfl 1 rfl ?_
              obtain ⟨r16, e_r16, h⟩ := bnd h
              refine g_callVi hX (pc := 102) (d := d + 1) hr0 [.int 170, .int x1] (c := 5) (ct_X5_sumOf (d := d + 1) ho0 e_r16) ho0.1.1 ho0.1.2 (by decide) rfl co_X5_sumOf ml_X5_240 im_X5_sumOf sl_X5_sumOf ini_X5 nm_X5_sumOf (by decide) ⟨Nat.le_refl _, Nat.le_refl _⟩ (Nat.le_refl _) (Nat.le_of_ble_eq_true rfl) rfl dX5_order_102 ?_
              replace h := Option.some.inj h
              obtain ⟨rfl, rfl⟩ := Prod.mk.inj h
              exact g_ireturn hX (Nat.le_refl _) (Nat.le_refl _) dX5_order_105
            · replace h := ifN c15 h
              by_cases c17 : x2 = 4
              · replace h := ifP c17 h
                refine g_tableIn hX (pc := 40) (tgt := 106) (off := 66) dX5_order_40 (by rw [c17]; decide) (by rw [c17]; decide) (by rw [c17]; rfl) (by decide) ?_
                refine g_aload_n hX (pc := 106) (i := 0) dX5_order_106 rfl 0 rfl ?_
                refine gf5_27 hX (pc := 107) ho0 fl_X5_48 dX5_order_107 ?_
                refine g_sipush hX (pc := 110) (v := 330) dX5_order_110 (by decide) ?_
                refine g_iload_n hX (pc := 113) (i := 1) dX5_order_113 rfl 1 rfl ?_
                refine g_iadd hX (pc := 114) dX5_order_114 ?_
                obtain ⟨v18, e_v18, h⟩ := bnd h
                refine g_ialoadE hX (pc := 115) (s5_27 ho0).1 (s5_27 ho0).2.1 (s5_27 ho0).2.2.1 e_v18 dX5_order_115 ?_
                replace h := Option.some.inj h
                obtain ⟨rfl, rfl⟩ := Prod.mk.inj h
                exact g_ireturn hX (Nat.le_refl _) (Nat.le_refl _) dX5_order_116
              · replace h := ifN c17 h
                refine g_tableOut hX (pc := 40) (tgt := 117) dX5_order_40 (by have q0 := lv_neT c9 (show (0 : Int32).toInt = 0 by decide); have q1 := lv_neT c11 (show (1 : Int32).toInt = 1 by decide); have q2 := lv_neT c13 (show (2 : Int32).toInt = 2 by decide); have q3 := lv_neT c15 (show (3 : Int32).toInt = 3 by decide); have q4 := lv_neT c17 (show (4 : Int32).toInt = 4 by decide); omega) (by decide) ?_
                refine g_aload_n hX (pc := 117) (i := 0) dX5_order_117 rfl 0 rfl ?_
                refine gf5_27 hX (pc := 118) ho0 fl_X5_48 dX5_order_118 ?_
                refine g_sipush hX (pc := 121) (v := 346) dX5_order_121 (by decide) ?_
                refine g_iload_n hX (pc := 124) (i := 1) dX5_order_124 rfl 1 rfl ?_
                refine g_iadd hX (pc := 125) dX5_order_125 ?_
                obtain ⟨v19, e_v19, h⟩ := bnd h
                refine g_ialoadE hX (pc := 126) (s5_27 ho0).1 (s5_27 ho0).2.1 (s5_27 ho0).2.2.1 e_v19 dX5_order_126 ?_
                replace h := Option.some.inj h
                obtain ⟨rfl, rfl⟩ := Prod.mk.inj h
                exact g_ireturn hX (Nat.le_refl _) (Nat.le_refl _) dX5_order_127
  replace h := hpj3
  clear hpj3
  refine g_if_eq hX (pc := 6) dX5_order_6 (tgt := 25) (by decide) (fun c2 => ?_) (fun c2 => ?_)
  · replace h := ifP c2 h
    refine g_iconst hX (pc := 25) (v := 1) dX5_order_25 (by decide) ?_
    exact Kj3 1 (Option.some.inj h)
  · replace h := ifN c2 h
    refine g_iload_n hX (pc := 9) (i := 2) dX5_order_9 rfl 2 rfl ?_
    refine g_i2l hX (pc := 10) dX5_order_10 ?_
    refine g_lconst hX (pc := 11) (v := 0) dX5_order_11 (by decide) ?_
    refine g_ldc2 hX (pc := 12) cst_X5_235 dX5_order_12 ?_
    obtain ⟨r4, e_r4, h⟩ := bnd h
    refine g_callSi hX (pc := 15) (d := d + 1) hr0 [.long x2.toInt64, .long 0, .long 5] (ct_X5_within (d := d + 1)  e_r4) co_X5_within ml_X5_123 sta_X5_within ini_X5 nm_X5_within (by decide) ⟨Nat.le_refl _, Nat.le_refl _⟩ (Nat.le_refl _) (Nat.le_of_ble_eq_true rfl) rfl dX5_order_15 ?_
    refine g_if_eq hX (pc := 18) dX5_order_18 (tgt := 25) (by decide) (fun c5 => ?_) (fun c5 => ?_)
    · replace h := ifP c5 h
      refine g_iconst hX (pc := 25) (v := 1) dX5_order_25 (by decide) ?_
      exact Kj3 1 (Option.some.inj h)
    · replace h := ifN c5 h
      refine g_iconst hX (pc := 21) (v := 0) dX5_order_21 (by decide) ?_
      refine g_goto hX (pc := 22) (tgt := 26) dX5_order_22 (by decide) ?_
      exact Kj3 0 (Option.some.inj h)
noncomputable def f_X5_units (o0 : Nat) (x1 : Int32) (x2 : Int32) (x3 : Int32) (J : MJ) (I : MI) : Option (Int32 × MI) :=
  (wf I o0 0 0).bind fun I1 =>
  (f_X5_isOrder o0 x1 J I1).bind fun r2 =>
  if r2 = 0 then
    some (((-1), I1))
  else
    (f_X5_isItem o0 x2 J I1).bind fun r4 =>
    if r4 = 0 then
      some (((-1), I1))
    else
      (if x3 = 0 then
        (rd 320 (I1 (o0 + 12)) ((10 * x1) + x2)).bind fun v8 =>
        some v8
      else
        if x3 = 1 then
          (rd 2117 (I1 (o0 + 13)) ((10 + (10 * x1)) + x2)).bind fun v10 =>
          some v10
        else
          if x3 = 2 then
            (rd 2117 (I1 (o0 + 13)) ((170 + (10 * x1)) + x2)).bind fun v12 =>
            some v12
          else
            some ((-1))).bind fun (p13 : Int32) =>
      some ((p13, I1))
theorem nm_X5_units : yX5_units.cls ≠ "java/lang/invoke/MethodHandle" ∧ yX5_units.cls ≠ "java/lang/invoke/VarHandle" ∧ (parseMethodDescriptor yX5_units.desc).map (fun d => d.parameters.length) = some 3 := by decide +kernel
set_option maxRecDepth 100000 in
set_option maxHeartbeats 4000000 in
theorem ct_X5_units {E : Ev} {d : Nat} {z : Sh} {J : MJ} {I : MI} {o0 : Nat} {x1 : Int32} {x2 : Int32} {x3 : Int32} {rr : Int32} {Iz : MI} (ho0 : oX5 z o0) (h : f_X5_units o0 x1 x2 x3 J I = some ((rr, Iz))) : Ct E (d + 2) yX5_units cX5_units 4 (some .int) 0 0 [.ref o0, .int x1, .int x2, .int x3] z J I (some (.int rr)) z J Iz := by
  unfold f_X5_units at h
  refine Ct.of (own := RX5) (ls := [(0, .ref o0), (1, .int x1), (2, .int x2), (3, .int x3)]) (by decide) rfl (Nat.le_of_ble_eq_true rfl) rfl ?_
  intro X hr0 hnm hX
  refine g_aload_n hX (pc := 0) (i := 0) dX5_units_0 rfl 0 rfl ?_
  refine g_iconst hX (pc := 1) (v := 0) dX5_units_1 (by decide) ?_
  obtain ⟨I1, e_I1, h⟩ := bnd h
  refine pf5_0 hX (pc := 2) ho0 fl_X5_86 dX5_units_2 e_I1 ?_
  refine g_aload_n hX (pc := 5) (i := 0) dX5_units_5 rfl 0 rfl ?_
  refine g_iload_n hX (pc := 6) (i := 1) dX5_units_6 rfl 1 rfl ?_
  obtain ⟨r2, e_r2, h⟩ := bnd h
  refine g_callVi hX (pc := 7) (d := d + 1) hr0 [.int x1] (c := 5) (ct_X5_isOrder (d := d + 0) ho0 e_r2) ho0.1.1 ho0.1.2 (by decide) rfl co_X5_isOrder ml_X5_232 im_X5_isOrder sl_X5_isOrder ini_X5 nm_X5_isOrder (by decide) ⟨Nat.le_refl _, Nat.le_refl _⟩ (Nat.le_refl _) (Nat.le_of_ble_eq_true rfl) rfl dX5_units_7 ?_
  refine g_if_eq hX (pc := 10) dX5_units_10 (tgt := 21) (by decide) (fun c3 => ?_) (fun c3 => ?_)
  · replace h := ifP c3 h
    refine g_iconst hX (pc := 21) (v := (-1)) dX5_units_21 (by decide) ?_
    replace h := Option.some.inj h
    obtain ⟨rfl, rfl⟩ := Prod.mk.inj h
    exact g_ireturn hX (Nat.le_refl _) (Nat.le_refl _) dX5_units_22
  · replace h := ifN c3 h
    refine g_aload_n hX (pc := 13) (i := 0) dX5_units_13 rfl 0 rfl ?_
    refine g_iload_n hX (pc := 14) (i := 2) dX5_units_14 rfl 2 rfl ?_
    obtain ⟨r4, e_r4, h⟩ := bnd h
    refine g_callVi hX (pc := 15) (d := d + 1) hr0 [.int x2] (c := 5) (ct_X5_isItem (d := d + 0) ho0 e_r4) ho0.1.1 ho0.1.2 (by decide) rfl co_X5_isItem ml_X5_225 im_X5_isItem sl_X5_isItem ini_X5 nm_X5_isItem (by decide) ⟨Nat.le_refl _, Nat.le_refl _⟩ (Nat.le_refl _) (Nat.le_of_ble_eq_true rfl) rfl dX5_units_15 ?_
    refine g_if_ne hX (pc := 18) dX5_units_18 (tgt := 23) (by decide) (fun c5 => ?_) (fun c5 => ?_)
    · replace h := ifP c5 h
      refine g_iconst hX (pc := 21) (v := (-1)) dX5_units_21 (by decide) ?_
      replace h := Option.some.inj h
      obtain ⟨rfl, rfl⟩ := Prod.mk.inj h
      exact g_ireturn hX (Nat.le_refl _) (Nat.le_refl _) dX5_units_22
    · replace h := ifN c5 h
      refine g_iload_n hX (pc := 23) (i := 3) dX5_units_23 rfl 3 rfl ?_
      obtain ⟨p13, hpj7, h⟩ := bnd h
      have Kj7 : ∀ qj7 : Int32, qj7 = p13 → GW E X (QX E X 0 0 (some (.int rr)) z J Iz) 4 87 [(0, .ref o0), (1, .int x1), (2, .int x2), (3, .int x3)] [.int qj7] z J I1 0 0 := by
        intro qj7 hqj7
        subst hqj7
        replace h := Option.some.inj h
        obtain ⟨rfl, rfl⟩ := Prod.mk.inj h
        exact g_ireturn hX (Nat.le_refl _) (Nat.le_refl _) dX5_units_87
      replace h := hpj7
      clear hpj7
      refine g_if_ne hX (pc := 24) dX5_units_24 (tgt := 41) (by decide) (fun c6 => ?_) (fun c6 => ?_)
      · replace h := ifP c6 h
        refine g_aload_n hX (pc := 27) (i := 0) dX5_units_27 rfl 0 rfl ?_
        refine gf5_23 hX (pc := 28) ho0 fl_X5_45 dX5_units_28 ?_
        refine g_bipush hX (pc := 31) (v := 10) dX5_units_31 (by decide) ?_
        refine g_iload_n hX (pc := 33) (i := 1) dX5_units_33 rfl 1 rfl ?_
        refine g_imul hX (pc := 34) dX5_units_34 ?_
        refine g_iload_n hX (pc := 35) (i := 2) dX5_units_35 rfl 2 rfl ?_
        refine g_iadd hX (pc := 36) dX5_units_36 ?_
        obtain ⟨v8, e_v8, h⟩ := bnd h
        refine g_ialoadE hX (pc := 37) (s5_23 ho0).1 (s5_23 ho0).2.1 (s5_23 ho0).2.2.1 e_v8 dX5_units_37 ?_
        refine g_goto hX (pc := 38) (tgt := 87) dX5_units_38 (by decide) ?_
        exact Kj7 v8 (Option.some.inj h)
      · replace h := ifN c6 h
        refine g_iload_n hX (pc := 41) (i := 3) dX5_units_41 rfl 3 rfl ?_
        refine g_iconst hX (pc := 42) (v := 1) dX5_units_42 (by decide) ?_
        refine g_icmp_ne hX (pc := 43) dX5_units_43 (tgt := 63) (by decide) (fun c9 => ?_) (fun c9 => ?_)
        · replace h := ifP c9 h
          refine g_aload_n hX (pc := 46) (i := 0) dX5_units_46 rfl 0 rfl ?_
          refine gf5_27 hX (pc := 47) ho0 fl_X5_48 dX5_units_47 ?_
          refine g_bipush hX (pc := 50) (v := 10) dX5_units_50 (by decide) ?_
          refine g_bipush hX (pc := 52) (v := 10) dX5_units_52 (by decide) ?_
          refine g_iload_n hX (pc := 54) (i := 1) dX5_units_54 rfl 1 rfl ?_
          refine g_imul hX (pc := 55) dX5_units_55 ?_
          refine g_iadd hX (pc := 56) dX5_units_56 ?_
          refine g_iload_n hX (pc := 57) (i := 2) dX5_units_57 rfl 2 rfl ?_
          refine g_iadd hX (pc := 58) dX5_units_58 ?_
          obtain ⟨v10, e_v10, h⟩ := bnd h
          refine g_ialoadE hX (pc := 59) (s5_27 ho0).1 (s5_27 ho0).2.1 (s5_27 ho0).2.2.1 e_v10 dX5_units_59 ?_
          refine g_goto hX (pc := 60) (tgt := 87) dX5_units_60 (by decide) ?_
          exact Kj7 v10 (Option.some.inj h)
        · replace h := ifN c9 h
          refine g_iload_n hX (pc := 63) (i := 3) dX5_units_63 rfl 3 rfl ?_
          refine g_iconst hX (pc := 64) (v := 2) dX5_units_64 (by decide) ?_
          refine g_icmp_ne hX (pc := 65) dX5_units_65 (tgt := 86) (by decide) (fun c11 => ?_) (fun c11 => ?_)
          · replace h := ifP c11 h
            refine g_aload_n hX (pc := 68) (i := 0) dX5_units_68 rfl 0 rfl ?_
            refine gf5_27 hX (pc := 69) ho0 fl_X5_48 dX5_units_69 ?_
            refine g_sipush hX (pc := 72) (v := 170) dX5_units_72 (by decide) ?_
            refine g_bipush hX (pc := 75) (v := 10) dX5_units_75 (by decide) ?_
            refine g_iload_n hX (pc := 77) (i := 1) dX5_units_77 rfl 1 rfl ?_
            refine g_imul hX (pc := 78) dX5_units_78 ?_
            refine g_iadd hX (pc := 79) dX5_units_79 ?_
            refine g_iload_n hX (pc := 80) (i := 2) dX5_units_80 rfl 2 rfl ?_
            refine g_iadd hX (pc := 81) dX5_units_81 ?_
            obtain ⟨v12, e_v12, h⟩ := bnd h
            refine g_ialoadE hX (pc := 82) (s5_27 ho0).1 (s5_27 ho0).2.1 (s5_27 ho0).2.2.1 e_v12 dX5_units_82 ?_
            refine g_goto hX (pc := 83) (tgt := 87) dX5_units_83 (by decide) ?_
            exact Kj7 v12 (Option.some.inj h)
          · replace h := ifN c11 h
            refine g_iconst hX (pc := 86) (v := (-1)) dX5_units_86 (by decide) ?_
            exact Kj7 ((-1)) (Option.some.inj h)
noncomputable def f_X5_isEarlier (o0 : Nat) (x1 : Int32) (x2 : Int32) (J : MJ) (I : MI) : Option (Int32) :=
  (rd 32 (I (o0 + 11)) x1).bind fun v1 =>
  (rd 32 (I (o0 + 11)) x2).bind fun v2 =>
  (if v1 = v2 then
    if x1 < x2 then
      some 1
    else
      some 0
  else
    (rd 32 (I (o0 + 11)) x1).bind fun v6 =>
    (rd 32 (I (o0 + 11)) x2).bind fun v7 =>
    if v6 < v7 then
      some 1
    else
      some 0).bind fun (p9 : Int32) =>
  (gb p9).bind fun b10 =>
  some p9
theorem nm_X5_isEarlier : yX5_isEarlier.cls ≠ "java/lang/invoke/MethodHandle" ∧ yX5_isEarlier.cls ≠ "java/lang/invoke/VarHandle" ∧ (parseMethodDescriptor yX5_isEarlier.desc).map (fun d => d.parameters.length) = some 2 := by decide +kernel
set_option maxRecDepth 100000 in
set_option maxHeartbeats 4000000 in
theorem ct_X5_isEarlier {E : Ev} {d : Nat} {z : Sh} {J : MJ} {I : MI} {o0 : Nat} {x1 : Int32} {x2 : Int32} {rr : Int32} (ho0 : oX5 z o0) (h : f_X5_isEarlier o0 x1 x2 J I = some rr) : Ct E (d + 0) yX5_isEarlier cX5_isEarlier 3 (some .boolean) 0 0 [.ref o0, .int x1, .int x2] z J I (some (.int rr)) z J I := by
  unfold f_X5_isEarlier at h
  refine Ct.of (own := RX5) (ls := [(0, .ref o0), (1, .int x1), (2, .int x2)]) (by decide) rfl (Nat.le_of_ble_eq_true rfl) rfl ?_
  intro X hr0 hnm hX
  refine g_aload_n hX (pc := 0) (i := 0) dX5_isEarlier_0 rfl 0 rfl ?_
  refine gf5_22 hX (pc := 1) ho0 fl_X5_42 dX5_isEarlier_1 ?_
  refine g_iload_n hX (pc := 4) (i := 1) dX5_isEarlier_4 rfl 1 rfl ?_
  obtain ⟨v1, e_v1, h⟩ := bnd h
  refine g_ialoadE hX (pc := 5) (s5_22 ho0).1 (s5_22 ho0).2.1 (s5_22 ho0).2.2.1 e_v1 dX5_isEarlier_5 ?_
  refine g_aload_n hX (pc := 6) (i := 0) dX5_isEarlier_6 rfl 0 rfl ?_
  refine gf5_22 hX (pc := 7) ho0 fl_X5_42 dX5_isEarlier_7 ?_
  refine g_iload_n hX (pc := 10) (i := 2) dX5_isEarlier_10 rfl 2 rfl ?_
  obtain ⟨v2, e_v2, h⟩ := bnd h
  refine g_ialoadE hX (pc := 11) (s5_22 ho0).1 (s5_22 ho0).2.1 (s5_22 ho0).2.2.1 e_v2 dX5_isEarlier_11 ?_
  obtain ⟨p9, hpj4, h⟩ := bnd h
  have Kj4 : ∀ qj4 : Int32, qj4 = p9 → GW E X (QX E X 0 0 (some (.int rr)) z J I) 3 48 [(0, .ref o0), (1, .int x1), (2, .int x2)] [.int qj4] z J I 0 0 := by
    intro qj4 hqj4
    subst hqj4
    obtain ⟨b10, e_b10, h⟩ := bnd h
    obtain rfl := Option.some.inj h
    exact g_zreturn hX (gb_some e_b10).1 (Nat.le_refl _) (Nat.le_refl _) dX5_isEarlier_48
  replace h := hpj4
  clear hpj4
  refine g_icmp_eq hX (pc := 12) dX5_isEarlier_12 (tgt := 38) (by decide) (fun c3 => ?_) (fun c3 => ?_)
  · replace h := ifP c3 h
    refine g_iload_n hX (pc := 38) (i := 1) dX5_isEarlier_38 rfl 1 rfl ?_
    refine g_iload_n hX (pc := 39) (i := 2) dX5_isEarlier_39 rfl 2 rfl ?_
    refine g_icmp_ge hX (pc := 40) dX5_isEarlier_40 (tgt := 47) (by decide) (fun c5 => ?_) (fun c5 => ?_)
    · replace h := ifP c5 h
      refine g_iconst hX (pc := 43) (v := 1) dX5_isEarlier_43 (by decide) ?_
      refine g_goto hX (pc := 44) (tgt := 48) dX5_isEarlier_44 (by decide) ?_
      exact Kj4 1 (Option.some.inj h)
    · replace h := ifN c5 h
      refine g_iconst hX (pc := 47) (v := 0) dX5_isEarlier_47 (by decide) ?_
      exact Kj4 0 (Option.some.inj h)
  · replace h := ifN c3 h
    refine g_aload_n hX (pc := 15) (i := 0) dX5_isEarlier_15 rfl 0 rfl ?_
    refine gf5_22 hX (pc := 16) ho0 fl_X5_42 dX5_isEarlier_16 ?_
    refine g_iload_n hX (pc := 19) (i := 1) dX5_isEarlier_19 rfl 1 rfl ?_
    obtain ⟨v6, e_v6, h⟩ := bnd h
    refine g_ialoadE hX (pc := 20) (s5_22 ho0).1 (s5_22 ho0).2.1 (s5_22 ho0).2.2.1 e_v6 dX5_isEarlier_20 ?_
    refine g_aload_n hX (pc := 21) (i := 0) dX5_isEarlier_21 rfl 0 rfl ?_
    refine gf5_22 hX (pc := 22) ho0 fl_X5_42 dX5_isEarlier_22 ?_
    refine g_iload_n hX (pc := 25) (i := 2) dX5_isEarlier_25 rfl 2 rfl ?_
    obtain ⟨v7, e_v7, h⟩ := bnd h
    refine g_ialoadE hX (pc := 26) (s5_22 ho0).1 (s5_22 ho0).2.1 (s5_22 ho0).2.2.1 e_v7 dX5_isEarlier_26 ?_
    refine g_icmp_ge hX (pc := 27) dX5_isEarlier_27 (tgt := 34) (by decide) (fun c8 => ?_) (fun c8 => ?_)
    · replace h := ifP c8 h
      refine g_iconst hX (pc := 30) (v := 1) dX5_isEarlier_30 (by decide) ?_
      refine g_goto hX (pc := 31) (tgt := 48) dX5_isEarlier_31 (by decide) ?_
      exact Kj4 1 (Option.some.inj h)
    · replace h := ifN c8 h
      refine g_iconst hX (pc := 34) (v := 0) dX5_isEarlier_34 (by decide) ?_
      refine g_goto hX (pc := 35) (tgt := 48) dX5_isEarlier_35 (by decide) ?_
      exact Kj4 0 (Option.some.inj h)
noncomputable def b_X5_alikeOf_5 (o0 : Nat) (x1 : Int32) (x2 : Int32) (I : MI) (s : Int32 × Int32) : Option ((Int32 × Int32) ⊕ (Int32 × Int32)) :=
  if s.2 < 10 then
    (rd 320 (I (o0 + 12)) ((10 * x1) + s.2)).bind fun v5 =>
    (if 0 < v5 then
      (rd 320 (I (o0 + 12)) ((10 * x2) + s.2)).bind fun v8 =>
      if 0 < v8 then
        some 1
      else
        some 0
    else
      some 0).bind fun (p10 : Int32) =>
    some (.inl ((s.1 + p10, s.2 + 1)))
  else
    some (.inr ((s.1, s.2)))
noncomputable def f_X5_alikeOf (o0 : Nat) (x1 : Int32) (x2 : Int32) (J : MJ) (I : MI) : Option (Int32) :=
  (lp (b_X5_alikeOf_5 o0 x1 x2 I) ((0, 0))).bind fun p11 =>
  some p11.1
theorem nm_X5_alikeOf : yX5_alikeOf.cls ≠ "java/lang/invoke/MethodHandle" ∧ yX5_alikeOf.cls ≠ "java/lang/invoke/VarHandle" ∧ (parseMethodDescriptor yX5_alikeOf.desc).map (fun d => d.parameters.length) = some 2 := by decide +kernel
set_option maxRecDepth 100000 in
set_option maxHeartbeats 4000000 in
theorem ct_X5_alikeOf {E : Ev} {d : Nat} {z : Sh} {J : MJ} {I : MI} {o0 : Nat} {x1 : Int32} {x2 : Int32} {rr : Int32} (ho0 : oX5 z o0) (h : f_X5_alikeOf o0 x1 x2 J I = some rr) : Ct E (d + 0) yX5_alikeOf cX5_alikeOf 5 (some .int) 0 0 [.ref o0, .int x1, .int x2] z J I (some (.int rr)) z J I := by
  unfold f_X5_alikeOf at h
  refine Ct.of (own := RX5) (ls := [(0, .ref o0), (1, .int x1), (2, .int x2)]) (by decide) rfl (Nat.le_of_ble_eq_true rfl) rfl ?_
  intro X hr0 hnm hX
  refine g_iconst hX (pc := 0) (v := 0) dX5_alikeOf_0 (by decide) ?_
  refine g_istore_n hX (pc := 1) (i := 3) (ls' := [(0, .ref o0), (1, .int x1), (2, .int x2), (3, .int 0)]) [1, 2, 3, 0] dX5_alikeOf_1 rfl (by decide) rfl ?_
  refine g_iconst hX (pc := 2) (v := 0) dX5_alikeOf_2 (by decide) ?_
  refine g_istore hX (pc := 3) (ls' := [(0, .ref o0), (1, .int x1), (2, .int x2), (3, .int 0), (4, .int 0)]) [1, 2, 3, 4, 0] dX5_alikeOf_3 (by decide) rfl ?_
  obtain ⟨p11, hpl3, h⟩ := bnd h
  have Kl3 : ∀ ql3 : Int32 × Int32, ql3 = p11 → GW E X (QX E X 0 0 (some (.int rr)) z J I) 5 56 [(0, .ref o0), (1, .int x1), (2, .int x2), (3, .int ql3.1), (4, .int ql3.2)] [] z J I 0 0 := by
    intro ql3 hql3
    subst hql3
    refine g_iload_n hX (pc := 56) (i := 3) dX5_alikeOf_56 rfl 3 rfl ?_
    obtain rfl := Option.some.inj h
    exact g_ireturn hX (Nat.le_refl _) (Nat.le_refl _) dX5_alikeOf_57
  obtain ⟨kl3, hkl3⟩ := lp_ex hpl3
  clear hpl3 h
  have Ll3 : ∀ k : Nat, ∀ (s1 : Int32) (s2 : Int32), lpN k (b_X5_alikeOf_5 o0 x1 x2 I) ((s1, s2)) = some p11 → GW E X (QX E X 0 0 (some (.int rr)) z J I) 5 5 [(0, .ref o0), (1, .int x1), (2, .int x2), (3, .int s1), (4, .int s2)] [] z J I 0 0 := by
    intro k
    induction k with
    | zero => intro s1 s2 h; cases h
    | succ k ihl3 =>
      intro s1 s2 h
      obtain ⟨wl3, h, hwl3⟩ := lpN_s h
      unfold b_X5_alikeOf_5 at h
      try dsimp only at h
      refine g_iload hX (pc := 5) dX5_alikeOf_5 4 rfl ?_
      refine g_bipush hX (pc := 7) (v := 10) dX5_alikeOf_7 (by decide) ?_
      refine g_icmp_ge hX (pc := 9) dX5_alikeOf_9 (tgt := 56) (by decide) (fun c4 => ?_) (fun c4 => ?_)
      · replace h := ifP c4 h
        refine g_iload_n hX (pc := 12) (i := 3) dX5_alikeOf_12 rfl 3 rfl ?_
        refine g_aload_n hX (pc := 13) (i := 0) dX5_alikeOf_13 rfl 0 rfl ?_
        refine gf5_23 hX (pc := 14) ho0 fl_X5_45 dX5_alikeOf_14 ?_
        refine g_bipush hX (pc := 17) (v := 10) dX5_alikeOf_17 (by decide) ?_
        refine g_iload_n hX (pc := 19) (i := 1) dX5_alikeOf_19 rfl 1 rfl ?_
        refine g_imul hX (pc := 20) dX5_alikeOf_20 ?_
        refine g_iload hX (pc := 21) dX5_alikeOf_21 4 rfl ?_
        refine g_iadd hX (pc := 23) dX5_alikeOf_23 ?_
        obtain ⟨v5, e_v5, h⟩ := bnd h
        refine g_ialoadE hX (pc := 24) (s5_23 ho0).1 (s5_23 ho0).2.1 (s5_23 ho0).2.2.1 e_v5 dX5_alikeOf_24 ?_
        obtain ⟨p10, hpj7, h⟩ := bnd h
        have Kj7 : ∀ qj7 : Int32, qj7 = p10 → GW E X (QX E X 0 0 (some (.int rr)) z J I) 5 48 [(0, .ref o0), (1, .int x1), (2, .int x2), (3, .int s1), (4, .int s2)] [.int qj7, .int s1] z J I 0 0 := by
          intro qj7 hqj7
          subst hqj7
          refine g_iadd hX (pc := 48) dX5_alikeOf_48 ?_
          refine g_istore_n hX (pc := 49) (i := 3) (ls' := [(0, .ref o0), (1, .int x1), (2, .int x2), (3, .int (s1 + qj7)), (4, .int s2)]) [1, 2, 3, 0, 4] dX5_alikeOf_49 rfl (by decide) rfl ?_
          refine g_iinc hX (pc := 50) (i := 4) (v := s2 + 1) (ls' := [(0, .ref o0), (1, .int x1), (2, .int x2), (3, .int (s1 + qj7)), (4, .int (s2 + 1))]) 4 [1, 2, 3, 4, 0] dX5_alikeOf_50 rfl (by rfl) (by decide) rfl ?_
          refine g_goto hX (pc := 53) (tgt := 5) dX5_alikeOf_53 (by decide) ?_
          obtain rfl := Option.some.inj h
          exact ihl3 (s1 + qj7) (s2 + 1) hwl3
        replace h := hpj7
        clear hpj7
        refine g_if_le hX (pc := 25) dX5_alikeOf_25 (tgt := 47) (by decide) (fun c6 => ?_) (fun c6 => ?_)
        · replace h := ifP c6 h
          refine g_aload_n hX (pc := 28) (i := 0) dX5_alikeOf_28 rfl 0 rfl ?_
          refine gf5_23 hX (pc := 29) ho0 fl_X5_45 dX5_alikeOf_29 ?_
          refine g_bipush hX (pc := 32) (v := 10) dX5_alikeOf_32 (by decide) ?_
          refine g_iload_n hX (pc := 34) (i := 2) dX5_alikeOf_34 rfl 2 rfl ?_
          refine g_imul hX (pc := 35) dX5_alikeOf_35 ?_
          refine g_iload hX (pc := 36) dX5_alikeOf_36 4 rfl ?_
          refine g_iadd hX (pc := 38) dX5_alikeOf_38 ?_
          obtain ⟨v8, e_v8, h⟩ := bnd h
          refine g_ialoadE hX (pc := 39) (s5_23 ho0).1 (s5_23 ho0).2.1 (s5_23 ho0).2.2.1 e_v8 dX5_alikeOf_39 ?_
          refine g_if_le hX (pc := 40) dX5_alikeOf_40 (tgt := 47) (by decide) (fun c9 => ?_) (fun c9 => ?_)
          · replace h := ifP c9 h
            refine g_iconst hX (pc := 43) (v := 1) dX5_alikeOf_43 (by decide) ?_
            refine g_goto hX (pc := 44) (tgt := 48) dX5_alikeOf_44 (by decide) ?_
            exact Kj7 1 (Option.some.inj h)
          · replace h := ifN c9 h
            refine g_iconst hX (pc := 47) (v := 0) dX5_alikeOf_47 (by decide) ?_
            exact Kj7 0 (Option.some.inj h)
        · replace h := ifN c6 h
          refine g_iconst hX (pc := 47) (v := 0) dX5_alikeOf_47 (by decide) ?_
          exact Kj7 0 (Option.some.inj h)
      · replace h := ifN c4 h
        obtain rfl := Option.some.inj h
        exact Kl3 ((s1, s2)) hwl3
  exact Ll3 kl3 0 0 hkl3
noncomputable def f_X5_alike (o0 : Nat) (x1 : Int32) (x2 : Int32) (J : MJ) (I : MI) : Option (Int32 × MI) :=
  (wf I o0 0 0).bind fun I1 =>
  (f_X5_isOrder o0 x1 J I1).bind fun r2 =>
  (if r2 = 0 then
    some ((-1))
  else
    (f_X5_isOrder o0 x2 J I1).bind fun r5 =>
    if r5 = 0 then
      some ((-1))
    else
      (f_X5_alikeOf o0 x1 x2 J I1).bind fun r7 =>
      some r7).bind fun (p8 : Int32) =>
  some ((p8, I1))
theorem nm_X5_alike : yX5_alike.cls ≠ "java/lang/invoke/MethodHandle" ∧ yX5_alike.cls ≠ "java/lang/invoke/VarHandle" ∧ (parseMethodDescriptor yX5_alike.desc).map (fun d => d.parameters.length) = some 2 := by decide +kernel
set_option maxRecDepth 100000 in
set_option maxHeartbeats 4000000 in
theorem ct_X5_alike {E : Ev} {d : Nat} {z : Sh} {J : MJ} {I : MI} {o0 : Nat} {x1 : Int32} {x2 : Int32} {rr : Int32} {Iz : MI} (ho0 : oX5 z o0) (h : f_X5_alike o0 x1 x2 J I = some ((rr, Iz))) : Ct E (d + 2) yX5_alike cX5_alike 3 (some .int) 0 0 [.ref o0, .int x1, .int x2] z J I (some (.int rr)) z J Iz := by
  unfold f_X5_alike at h
  refine Ct.of (own := RX5) (ls := [(0, .ref o0), (1, .int x1), (2, .int x2)]) (by decide) rfl (Nat.le_of_ble_eq_true rfl) rfl ?_
  intro X hr0 hnm hX
  refine g_aload_n hX (pc := 0) (i := 0) dX5_alike_0 rfl 0 rfl ?_
  refine g_iconst hX (pc := 1) (v := 0) dX5_alike_1 (by decide) ?_
  obtain ⟨I1, e_I1, h⟩ := bnd h
  refine pf5_0 hX (pc := 2) ho0 fl_X5_86 dX5_alike_2 e_I1 ?_
  refine g_aload_n hX (pc := 5) (i := 0) dX5_alike_5 rfl 0 rfl ?_
  refine g_iload_n hX (pc := 6) (i := 1) dX5_alike_6 rfl 1 rfl ?_
  obtain ⟨r2, e_r2, h⟩ := bnd h
  refine g_callVi hX (pc := 7) (d := d + 1) hr0 [.int x1] (c := 5) (ct_X5_isOrder (d := d + 0) ho0 e_r2) ho0.1.1 ho0.1.2 (by decide) rfl co_X5_isOrder ml_X5_232 im_X5_isOrder sl_X5_isOrder ini_X5 nm_X5_isOrder (by decide) ⟨Nat.le_refl _, Nat.le_refl _⟩ (Nat.le_refl _) (Nat.le_of_ble_eq_true rfl) rfl dX5_alike_7 ?_
  obtain ⟨p8, hpj4, h⟩ := bnd h
  have Kj4 : ∀ qj4 : Int32, qj4 = p8 → GW E X (QX E X 0 0 (some (.int rr)) z J Iz) 3 31 [(0, .ref o0), (1, .int x1), (2, .int x2)] [.int qj4] z J I1 0 0 := by
    intro qj4 hqj4
    subst hqj4
    replace h := Option.some.inj h
    obtain ⟨rfl, rfl⟩ := Prod.mk.inj h
    exact g_ireturn hX (Nat.le_refl _) (Nat.le_refl _) dX5_alike_31
  replace h := hpj4
  clear hpj4
  refine g_if_eq hX (pc := 10) dX5_alike_10 (tgt := 30) (by decide) (fun c3 => ?_) (fun c3 => ?_)
  · replace h := ifP c3 h
    refine g_iconst hX (pc := 30) (v := (-1)) dX5_alike_30 (by decide) ?_
    exact Kj4 ((-1)) (Option.some.inj h)
  · replace h := ifN c3 h
    refine g_aload_n hX (pc := 13) (i := 0) dX5_alike_13 rfl 0 rfl ?_
    refine g_iload_n hX (pc := 14) (i := 2) dX5_alike_14 rfl 2 rfl ?_
    obtain ⟨r5, e_r5, h⟩ := bnd h
    refine g_callVi hX (pc := 15) (d := d + 1) hr0 [.int x2] (c := 5) (ct_X5_isOrder (d := d + 0) ho0 e_r5) ho0.1.1 ho0.1.2 (by decide) rfl co_X5_isOrder ml_X5_232 im_X5_isOrder sl_X5_isOrder ini_X5 nm_X5_isOrder (by decide) ⟨Nat.le_refl _, Nat.le_refl _⟩ (Nat.le_refl _) (Nat.le_of_ble_eq_true rfl) rfl dX5_alike_15 ?_
    refine g_if_eq hX (pc := 18) dX5_alike_18 (tgt := 30) (by decide) (fun c6 => ?_) (fun c6 => ?_)
    · replace h := ifP c6 h
      refine g_iconst hX (pc := 30) (v := (-1)) dX5_alike_30 (by decide) ?_
      exact Kj4 ((-1)) (Option.some.inj h)
    · replace h := ifN c6 h
      refine g_aload_n hX (pc := 21) (i := 0) dX5_alike_21 rfl 0 rfl ?_
      refine g_iload_n hX (pc := 22) (i := 1) dX5_alike_22 rfl 1 rfl ?_
      refine g_iload_n hX (pc := 23) (i := 2) dX5_alike_23 rfl 2 rfl ?_
      obtain ⟨r7, e_r7, h⟩ := bnd h
      refine g_callVi hX (pc := 24) (d := d + 1) hr0 [.int x1, .int x2] (c := 5) (ct_X5_alikeOf (d := d + 1) ho0 e_r7) ho0.1.1 ho0.1.2 (by decide) rfl co_X5_alikeOf ml_X5_244 im_X5_alikeOf sl_X5_alikeOf ini_X5 nm_X5_alikeOf (by decide) ⟨Nat.le_refl _, Nat.le_refl _⟩ (Nat.le_refl _) (Nat.le_of_ble_eq_true rfl) rfl dX5_alike_24 ?_
      refine g_goto hX (pc := 27) (tgt := 31) dX5_alike_27 (by decide) ?_
      exact Kj4 r7 (Option.some.inj h)
