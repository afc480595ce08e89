noncomputable def f_X5_cost (o0 : Nat) (x1 : Int32) (x2 : Int32) (J : MJ) (I : MI) : Option (Int32 × MI) :=
  (wf I o0 0 0).bind fun I1 =>
  (f_X5_nextWave o0 J I1).bind fun r2 =>
  (f_X5_laysPicks o0 r2 J I1).bind fun r3 =>
  (f_X5_walkOf o0 J r3).bind fun r4 =>
  (if (x1.toInt64 * ((r3 o0 35).toInt64)) = (((x1.toInt64 * ((r3 o0 35).toInt64)).toInt32).toInt64) then
    if (x2.toInt64 * r4.toInt64) = (((x2.toInt64 * r4.toInt64).toInt32).toInt64) then
      if ((x1.toInt64 * ((r3 o0 35).toInt64)) + (x2.toInt64 * r4.toInt64)) = ((((x1.toInt64 * ((r3 o0 35).toInt64)) + (x2.toInt64 * r4.toInt64)).toInt32).toInt64) then
        some 1
      else
        some 0
    else
      some 0
  else
    some 0).bind fun (p9 : Int32) =>
  (if p9 = 0 then
    some ((-2147483648))
  else
    some (((x1.toInt64 * ((r3 o0 35).toInt64)) + (x2.toInt64 * r4.toInt64)).toInt32)).bind fun (p12 : Int32) =>
  some ((p12, r3))
theorem nm_X5_cost : yX5_cost.cls ≠ "java/lang/invoke/MethodHandle" ∧ yX5_cost.cls ≠ "java/lang/invoke/VarHandle" ∧ (parseMethodDescriptor yX5_cost.desc).map (fun d => d.parameters.length) = some 2 := by decide +kernel
set_option maxRecDepth 100000 in
set_option maxHeartbeats 4000000 in
theorem ct_X5_cost {E : Ev} {d : Nat} {z : Sh} {J : MJ} {I : MI} {o0 : Nat} {x1 : Int32} {x2 : Int32} {rr : Int32} {Iz : MI} (ho0 : oX5 z o0) (h : f_X5_cost o0 x1 x2 J I = some ((rr, Iz))) : Ct E (d + 4) yX5_cost cX5_cost 8 (some .int) 0 0 [.ref o0, .int x1, .int x2] z J I (some (.int rr)) z J Iz := by
  unfold f_X5_cost at h
  refine Ct.of (own := RX5) (ls := [(0, .ref o0), (1, .int x1), (2, .int x2)]) (by decide) rfl (Nat.le_of_ble_eq_true rfl) rfl ?_
  intro X hr0 hnm hX
  refine g_aload_n hX (pc := 0) (i := 0) dX5_cost_0 rfl 0 rfl ?_
  refine g_iconst hX (pc := 1) (v := 0) dX5_cost_1 (by decide) ?_
  obtain ⟨I1, e_I1, h⟩ := bnd h
  refine pf5_0 hX (pc := 2) ho0 fl_X5_86 dX5_cost_2 e_I1 ?_
  refine g_aload_n hX (pc := 5) (i := 0) dX5_cost_5 rfl 0 rfl ?_
  refine g_aload_n hX (pc := 6) (i := 0) dX5_cost_6 rfl 0 rfl ?_
  obtain ⟨r2, e_r2, h⟩ := bnd h
  refine g_callVi hX (pc := 7) (d := d + 3) hr0 [] (c := 5) (ct_X5_nextWave (d := d + 0) ho0 e_r2) ho0.1.1 ho0.1.2 (by decide) rfl co_X5_nextWave ml_X5_269 im_X5_nextWave sl_X5_nextWave ini_X5 nm_X5_nextWave (by decide) ⟨Nat.le_refl _, Nat.le_refl _⟩ (Nat.le_refl _) (Nat.le_of_ble_eq_true rfl) rfl dX5_cost_7 ?_
  obtain ⟨r3, e_r3, h⟩ := bnd h
  refine g_callVv hX (pc := 10) (d := d + 3) hr0 [.int r2] (c := 5) (ct_X5_laysPicks (d := d + 3) ho0 e_r3) ho0.1.1 ho0.1.2 (by decide) rfl co_X5_laysPicks ml_X5_275 im_X5_laysPicks sl_X5_laysPicks ini_X5 nm_X5_laysPicks (by decide) ⟨Nat.le_refl _, Nat.le_refl _⟩ (Nat.le_refl _) (Nat.le_of_ble_eq_true rfl) rfl dX5_cost_10 ?_
  refine g_iload_n hX (pc := 13) (i := 1) dX5_cost_13 rfl 1 rfl ?_
  refine g_i2l hX (pc := 14) dX5_cost_14 ?_
  refine g_aload_n hX (pc := 15) (i := 0) dX5_cost_15 rfl 0 rfl ?_
  refine gf5_35 hX (pc := 16) ho0 fl_X5_272 dX5_cost_16 ?_
  refine g_i2l hX (pc := 19) dX5_cost_19 ?_
  refine g_lmul hX (pc := 20) dX5_cost_20 ?_
  refine g_lstore_n hX (pc := 21) (i := 3) (ls' := [(0, .ref o0), (1, .int x1), (2, .int x2), (3, .long (x1.toInt64 * ((r3 o0 35).toInt64)))]) [1, 2, 3, 0] dX5_cost_21 rfl (by decide) rfl ?_
  refine g_iload_n hX (pc := 22) (i := 2) dX5_cost_22 rfl 2 rfl ?_
  refine g_i2l hX (pc := 23) dX5_cost_23 ?_
  refine g_aload_n hX (pc := 24) (i := 0) dX5_cost_24 rfl 0 rfl ?_
  obtain ⟨r4, e_r4, h⟩ := bnd h
  refine g_callVi hX (pc := 25) (d := d + 3) hr0 [] (c := 5) (ct_X5_walkOf (d := d + 3) ho0 e_r4) ho0.1.1 ho0.1.2 (by decide) rfl co_X5_walkOf ml_X5_278 im_X5_walkOf sl_X5_walkOf ini_X5 nm_X5_walkOf (by decide) ⟨Nat.le_refl _, Nat.le_refl _⟩ (Nat.le_refl _) (Nat.le_of_ble_eq_true rfl) rfl dX5_cost_25 ?_
  refine g_i2l hX (pc := 28) dX5_cost_28 ?_
  refine g_lmul hX (pc := 29) dX5_cost_29 ?_
  refine g_lstore hX (pc := 30) (ls' := [(0, .ref o0), (1, .int x1), (2, .int x2), (3, .long (x1.toInt64 * ((r3 o0 35).toInt64))), (5, .long (x2.toInt64 * r4.toInt64))]) [1, 2, 3, 4, 0] dX5_cost_30 (by decide) rfl ?_
  refine g_lload_n hX (pc := 32) (i := 3) dX5_cost_32 rfl 3 rfl ?_
  refine g_lload_n hX (pc := 33) (i := 3) dX5_cost_33 rfl 3 rfl ?_
  refine g_l2i hX (pc := 34) dX5_cost_34 ?_
  refine g_i2l hX (pc := 35) dX5_cost_35 ?_
  obtain ⟨p9, hpj6, h⟩ := bnd h
  have Kj6 : ∀ qj6 : Int32, qj6 = p9 → GW E X (QX E X 0 0 (some (.int rr)) z J Iz) 8 69 [(0, .ref o0), (1, .int x1), (2, .int x2), (3, .long (x1.toInt64 * ((r3 o0 35).toInt64))), (5, .long (x2.toInt64 * r4.toInt64))] [.int qj6] z J r3 0 0 := by
    intro qj6 hqj6
    subst hqj6
    refine g_istore hX (pc := 69) (ls' := [(0, .ref o0), (1, .int x1), (2, .int x2), (3, .long (x1.toInt64 * ((r3 o0 35).toInt64))), (5, .long (x2.toInt64 * r4.toInt64)), (7, .int qj6)]) [1, 2, 3, 4, 5, 0] dX5_cost_69 (by decide) rfl ?_
    refine g_iload hX (pc := 71) dX5_cost_71 5 rfl ?_
    obtain ⟨p12, hpj11, h⟩ := bnd h
    have Kj11 : ∀ qj11 : Int32, qj11 = p12 → GW E X (QX E X 0 0 (some (.int rr)) z J Iz) 8 87 [(0, .ref o0), (1, .int x1), (2, .int x2), (3, .long (x1.toInt64 * ((r3 o0 35).toInt64))), (5, .long (x2.toInt64 * r4.toInt64)), (7, .int qj6)] [.int qj11] z J r3 0 0 := by
      intro qj11 hqj11
      subst hqj11
      replace h := Option.some.inj h
      obtain ⟨rfl, rfl⟩ := Prod.mk.inj h
      exact g_ireturn hX (Nat.le_refl _) (Nat.le_refl _) dX5_cost_87
    replace h := hpj11
    clear hpj11
    refine g_if_eq hX (pc := 73) dX5_cost_73 (tgt := 84) (by decide) (fun c10 => ?_) (fun c10 => ?_)
    · replace h := ifP c10 h
      refine g_ldc_w hX (pc := 84) cst_X5_283 dX5_cost_84 ?_
      exact Kj11 ((-2147483648)) (Option.some.inj h)
    · replace h := ifN c10 h
      refine g_lload_n hX (pc := 76) (i := 3) dX5_cost_76 rfl 3 rfl ?_
      refine g_lload hX (pc := 77) dX5_cost_77 4 rfl ?_
      refine g_ladd hX (pc := 79) dX5_cost_79 ?_
      refine g_l2i hX (pc := 80) dX5_cost_80 ?_
      refine g_goto hX (pc := 81) (tgt := 87) dX5_cost_81 (by decide) ?_
      exact Kj11 (((x1.toInt64 * ((r3 o0 35).toInt64)) + (x2.toInt64 * r4.toInt64)).toInt32) (Option.some.inj h)
  replace h := hpj6
  clear hpj6
  refine g_lcmp_ne hX (pc := 36) dX5_cost_36 dX5_cost_37 (tgt := 68) (by decide) (fun c5 => ?_) (fun c5 => ?_)
  · replace h := ifP c5 h
    refine g_lload hX (pc := 40) dX5_cost_40 4 rfl ?_
    refine g_lload hX (pc := 42) dX5_cost_42 4 rfl ?_
    refine g_l2i hX (pc := 44) dX5_cost_44 ?_
    refine g_i2l hX (pc := 45) dX5_cost_45 ?_
    refine g_lcmp_ne hX (pc := 46) dX5_cost_46 dX5_cost_47 (tgt := 68) (by decide) (fun c7 => ?_) (fun c7 => ?_)
    · replace h := ifP c7 h
      refine g_lload_n hX (pc := 50) (i := 3) dX5_cost_50 rfl 3 rfl ?_
      refine g_lload hX (pc := 51) dX5_cost_51 4 rfl ?_
      refine g_ladd hX (pc := 53) dX5_cost_53 ?_
      refine g_lload_n hX (pc := 54) (i := 3) dX5_cost_54 rfl 3 rfl ?_
      refine g_lload hX (pc := 55) dX5_cost_55 4 rfl ?_
      refine g_ladd hX (pc := 57) dX5_cost_57 ?_
      refine g_l2i hX (pc := 58) dX5_cost_58 ?_
      refine g_i2l hX (pc := 59) dX5_cost_59 ?_
      refine g_lcmp_ne hX (pc := 60) dX5_cost_60 dX5_cost_61 (tgt := 68) (by decide) (fun c8 => ?_) (fun c8 => ?_)
      · replace h := ifP c8 h
        refine g_iconst hX (pc := 64) (v := 1) dX5_cost_64 (by decide) ?_
        refine g_goto hX (pc := 65) (tgt := 69) dX5_cost_65 (by decide) ?_
        exact Kj6 1 (Option.some.inj h)
      · replace h := ifN c8 h
        refine g_iconst hX (pc := 68) (v := 0) dX5_cost_68 (by decide) ?_
        exact Kj6 0 (Option.some.inj h)
    · replace h := ifN c7 h
      refine g_iconst hX (pc := 68) (v := 0) dX5_cost_68 (by decide) ?_
      exact Kj6 0 (Option.some.inj h)
  · replace h := ifN c5 h
    refine g_iconst hX (pc := 68) (v := 0) dX5_cost_68 (by decide) ?_
    exact Kj6 0 (Option.some.inj h)
noncomputable def b_X5_keeps_11 (o0 : Nat) (s : Int32 × MI) : Option ((Int32 × MI) ⊕ (Int32 × MI)) :=
  if s.1 < 23287 then
    (rd 25404 (s.2 (o0 + 14)) (s.1 + 2117)).bind fun v7 =>
    (wr 25404 s.2 (o0 + 14) s.1 v7).bind fun I8 =>
    some (.inl ((s.1 + 1, I8)))
  else
    some (.inr ((s.1, s.2)))
noncomputable def b_X5_keeps_52 (o0 : Nat) (s : Int32 × MI) : Option ((Int32 × MI) ⊕ (Int32 × MI)) :=
  if s.1 < 2117 then
    (rd 2117 (s.2 (o0 + 13)) s.1).bind fun v16 =>
    (wr 25404 s.2 (o0 + 14) ((2117 * (s.2 o0 29)) + s.1) v16).bind fun I17 =>
    some (.inl ((s.1 + 1, I17)))
  else
    some (.inr ((s.1, s.2)))
noncomputable def f_X5_keeps (o0 : Nat) (J : MJ) (I : MI) : Option (MI) :=
  (if (I o0 29) = 12 then
    (lp (b_X5_keeps_11 o0) ((0, I))).bind fun p9 =>
    (wf p9.2 o0 29 ((p9.2 o0 29) - 1)).bind fun I10 =>
    some I10
  else
    some I).bind fun (p11 : MI) =>
  (lp (b_X5_keeps_52 o0) ((0, p11))).bind fun p18 =>
  (wf p18.2 o0 29 ((p18.2 o0 29) + 1)).bind fun I19 =>
  some I19
theorem nm_X5_keeps : yX5_keeps.cls ≠ "java/lang/invoke/MethodHandle" ∧ yX5_keeps.cls ≠ "java/lang/invoke/VarHandle" ∧ (parseMethodDescriptor yX5_keeps.desc).map (fun d => d.parameters.length) = some 0 := by decide +kernel
set_option maxRecDepth 100000 in
set_option maxHeartbeats 4000000 in
theorem ct_X5_keeps {E : Ev} {d : Nat} {z : Sh} {J : MJ} {I : MI} {o0 : Nat} {Iz : MI} (ho0 : oX5 z o0) (h : f_X5_keeps o0 J I = some Iz) : Ct E (d + 0) yX5_keeps cX5_keeps 2 none 0 0 [.ref o0] z J I none z J Iz := by
  unfold f_X5_keeps at h
  refine Ct.of (own := RX5) (ls := [(0, .ref o0)]) (by decide) rfl (Nat.le_of_ble_eq_true rfl) rfl ?_
  intro X hr0 hnm hX
  refine g_aload_n hX (pc := 0) (i := 0) dX5_keeps_0 rfl 0 rfl ?_
  refine gf5_29 hX (pc := 1) ho0 fl_X5_222 dX5_keeps_1 ?_
  refine g_bipush hX (pc := 4) (v := 12) dX5_keeps_4 (by decide) ?_
  obtain ⟨p11, hpj2, h⟩ := bnd h
  have Kj2 : ∀ qj2 : MI, qj2 = p11 → GW E X (QX E X 0 0 none z J Iz) 2 50 [(0, .ref o0)] [] z J qj2 0 0 := by
    intro qj2 hqj2
    subst hqj2
    refine g_iconst hX (pc := 50) (v := 0) dX5_keeps_50 (by decide) ?_
    refine g_istore_n hX (pc := 51) (i := 1) (ls' := [(0, .ref o0), (1, .int 0)]) [1, 0] dX5_keeps_51 rfl (by decide) rfl ?_
    obtain ⟨p18, hpl14, h⟩ := bnd h
    have Kl14 : ∀ ql14 : Int32 × MI, ql14 = p18 → GW E X (QX E X 0 0 none z J Iz) 2 86 [(0, .ref o0), (1, .int ql14.1)] [] z J ql14.2 0 0 := by
      intro ql14 hql14
      subst hql14
      refine g_aload_n hX (pc := 86) (i := 0) dX5_keeps_86 rfl 0 rfl ?_
      refine g_dup hX (pc := 87) dX5_keeps_87 rfl ?_
      refine gf5_29 hX (pc := 88) ho0 fl_X5_222 dX5_keeps_88 ?_
      refine g_iconst hX (pc := 91) (v := 1) dX5_keeps_91 (by decide) ?_
      refine g_iadd hX (pc := 92) dX5_keeps_92 ?_
      obtain ⟨I19, e_I19, h⟩ := bnd h
      refine pf5_29 hX (pc := 93) ho0 fl_X5_222 dX5_keeps_93 e_I19 ?_
      obtain rfl := Option.some.inj h
      exact g_return hX (Nat.le_refl _) (Nat.le_refl _) dX5_keeps_96
    obtain ⟨kl14, hkl14⟩ := lp_ex hpl14
    clear hpl14 h
    have Ll14 : ∀ k : Nat, ∀ (s12 : Int32) (I13 : MI), lpN k (b_X5_keeps_52 o0) ((s12, I13)) = some p18 → GW E X (QX E X 0 0 none z J Iz) 2 52 [(0, .ref o0), (1, .int s12)] [] z J I13 0 0 := by
      intro k
      induction k with
      | zero => intro s12 I13 h; cases h
      | succ k ihl14 =>
        intro s12 I13 h
        obtain ⟨wl14, h, hwl14⟩ := lpN_s h
        unfold b_X5_keeps_52 at h
        try dsimp only at h
        refine g_iload_n hX (pc := 52) (i := 1) dX5_keeps_52 rfl 1 rfl ?_
        refine g_sipush hX (pc := 53) (v := 2117) dX5_keeps_53 (by decide) ?_
        refine g_icmp_ge hX (pc := 56) dX5_keeps_56 (tgt := 86) (by decide) (fun c15 => ?_) (fun c15 => ?_)
        · replace h := ifP c15 h
          refine g_aload_n hX (pc := 59) (i := 0) dX5_keeps_59 rfl 0 rfl ?_
          refine gf5_28 hX (pc := 60) ho0 fl_X5_51 dX5_keeps_60 ?_
          refine g_sipush hX (pc := 63) (v := 2117) dX5_keeps_63 (by decide) ?_
          refine g_aload_n hX (pc := 66) (i := 0) dX5_keeps_66 rfl 0 rfl ?_
          refine gf5_29 hX (pc := 67) ho0 fl_X5_222 dX5_keeps_67 ?_
          refine g_imul hX (pc := 70) dX5_keeps_70 ?_
          refine g_iload_n hX (pc := 71) (i := 1) dX5_keeps_71 rfl 1 rfl ?_
          refine g_iadd hX (pc := 72) dX5_keeps_72 ?_
          refine g_aload_n hX (pc := 73) (i := 0) dX5_keeps_73 rfl 0 rfl ?_
          refine gf5_27 hX (pc := 74) ho0 fl_X5_48 dX5_keeps_74 ?_
          refine g_iload_n hX (pc := 77) (i := 1) dX5_keeps_77 rfl 1 rfl ?_
          obtain ⟨v16, e_v16, h⟩ := bnd h
          refine g_ialoadE hX (pc := 78) (s5_27 ho0).1 (s5_27 ho0).2.1 (s5_27 ho0).2.2.1 e_v16 dX5_keeps_78 ?_
          obtain ⟨I17, e_I17, h⟩ := bnd h
          refine g_iastoreE hX (pc := 79) (s5_28 ho0).1 (s5_28 ho0).2.1 (s5_28 ho0).2.2.1 e_I17 dX5_keeps_79 ?_
          refine g_iinc hX (pc := 80) (i := 1) (v := s12 + 1) (ls' := [(0, .ref o0), (1, .int (s12 + 1))]) 1 [1, 0] dX5_keeps_80 rfl (by rfl) (by decide) rfl ?_
          refine g_goto hX (pc := 83) (tgt := 52) dX5_keeps_83 (by decide) ?_
          obtain rfl := Option.some.inj h
          exact ihl14 (s12 + 1) I17 hwl14
        · replace h := ifN c15 h
          obtain rfl := Option.some.inj h
          exact Kl14 ((s12, I13)) hwl14
    exact Ll14 kl14 0 qj2 hkl14
  replace h := hpj2
  clear hpj2
  refine g_icmp_ne hX (pc := 6) dX5_keeps_6 (tgt := 50) (by decide) (fun c1 => ?_) (fun c1 => ?_)
  · replace h := ifP c1 h
    refine g_iconst hX (pc := 9) (v := 0) dX5_keeps_9 (by decide) ?_
    refine g_istore_n hX (pc := 10) (i := 1) (ls' := [(0, .ref o0), (1, .int 0)]) [1, 0] dX5_keeps_10 rfl (by decide) rfl ?_
    obtain ⟨p9, hpl5, h⟩ := bnd h
    have Kl5 : ∀ ql5 : Int32 × MI, ql5 = p9 → GW E X (QX E X 0 0 none z J Iz) 2 40 [(0, .ref o0), (1, .int ql5.1)] [] z J ql5.2 0 0 := by
      intro ql5 hql5
      subst hql5
      refine g_aload_n hX (pc := 40) (i := 0) dX5_keeps_40 rfl 0 rfl ?_
      refine g_dup hX (pc := 41) dX5_keeps_41 rfl ?_
      refine gf5_29 hX (pc := 42) ho0 fl_X5_222 dX5_keeps_42 ?_
      refine g_iconst hX (pc := 45) (v := 1) dX5_keeps_45 (by decide) ?_
      refine g_isub hX (pc := 46) dX5_keeps_46 ?_
      obtain ⟨I10, e_I10, h⟩ := bnd h
      refine pf5_29 hX (pc := 47) ho0 fl_X5_222 dX5_keeps_47 e_I10 ?_
      refine g_sub (ls' := [(0, .ref o0)]) [0] rfl ?_
      exact Kj2 I10 (Option.some.inj h)
    obtain ⟨kl5, hkl5⟩ := lp_ex hpl5
    clear hpl5 h
    have Ll5 : ∀ k : Nat, ∀ (s3 : Int32) (I4 : MI), lpN k (b_X5_keeps_11 o0) ((s3, I4)) = some p9 → GW E X (QX E X 0 0 none z J Iz) 2 11 [(0, .ref o0), (1, .int s3)] [] z J I4 0 0 := by
      intro k
      induction k with
      | zero => intro s3 I4 h; cases h
      | succ k ihl5 =>
        intro s3 I4 h
        obtain ⟨wl5, h, hwl5⟩ := lpN_s h
        unfold b_X5_keeps_11 at h
        try dsimp only at h
        refine g_iload_n hX (pc := 11) (i := 1) dX5_keeps_11 rfl 1 rfl ?_
        refine g_sipush hX (pc := 12) (v := 23287) dX5_keeps_12 (by decide) ?_
        refine g_icmp_ge hX (pc := 15) dX5_keeps_15 (tgt := 40) (by decide) (fun c6 => ?_) (fun c6 => ?_)
        · replace h := ifP c6 h
          refine g_aload_n hX (pc := 18) (i := 0) dX5_keeps_18 rfl 0 rfl ?_
          refine gf5_28 hX (pc := 19) ho0 fl_X5_51 dX5_keeps_19 ?_
          refine g_iload_n hX (pc := 22) (i := 1) dX5_keeps_22 rfl 1 rfl ?_
          refine g_aload_n hX (pc := 23) (i := 0) dX5_keeps_23 rfl 0 rfl ?_
          refine gf5_28 hX (pc := 24) ho0 fl_X5_51 dX5_keeps_24 ?_
          refine g_iload_n hX (pc := 27) (i := 1) dX5_keeps_27 rfl 1 rfl ?_
          refine g_sipush hX (pc := 28) (v := 2117) dX5_keeps_28 (by decide) ?_
          refine g_iadd hX (pc := 31) dX5_keeps_31 ?_
          obtain ⟨v7, e_v7, h⟩ := bnd h
          refine g_ialoadE hX (pc := 32) (s5_28 ho0).1 (s5_28 ho0).2.1 (s5_28 ho0).2.2.1 e_v7 dX5_keeps_32 ?_
          obtain ⟨I8, e_I8, h⟩ := bnd h
          refine g_iastoreE hX (pc := 33) (s5_28 ho0).1 (s5_28 ho0).2.1 (s5_28 ho0).2.2.1 e_I8 dX5_keeps_33 ?_
          refine g_iinc hX (pc := 34) (i := 1) (v := s3 + 1) (ls' := [(0, .ref o0), (1, .int (s3 + 1))]) 1 [1, 0] dX5_keeps_34 rfl (by rfl) (by decide) rfl ?_
          refine g_goto hX (pc := 37) (tgt := 11) dX5_keeps_37 (by decide) ?_
          obtain rfl := Option.some.inj h
          exact ihl5 (s3 + 1) I8 hwl5
        · replace h := ifN c6 h
          obtain rfl := Option.some.inj h
          exact Kl5 ((s3, I4)) hwl5
    exact Ll5 kl5 0 I hkl5
  · replace h := ifN c1 h
    exact Kj2 I (Option.some.inj h)
noncomputable def f_X5_toBelt (o0 : Nat) (x1 : Int32) (x2 : Int32) (J : MJ) (I : MI) : Option (MI) :=
  (rd 2117 (I (o0 + 13)) 370).bind fun v1 =>
  (wr 2117 I (o0 + 13) (371 + v1) ((10 * x1) + x2)).bind fun I2 =>
  (rd 2117 (I2 (o0 + 13)) 370).bind fun v3 =>
  (wr 2117 I2 (o0 + 13) 370 (v3 + 1)).bind fun I4 =>
  some I4
theorem nm_X5_toBelt : yX5_toBelt.cls ≠ "java/lang/invoke/MethodHandle" ∧ yX5_toBelt.cls ≠ "java/lang/invoke/VarHandle" ∧ (parseMethodDescriptor yX5_toBelt.desc).map (fun d => d.parameters.length) = some 2 := by decide +kernel
set_option maxRecDepth 100000 in
set_option maxHeartbeats 4000000 in
theorem ct_X5_toBelt {E : Ev} {d : Nat} {z : Sh} {J : MJ} {I : MI} {o0 : Nat} {x1 : Int32} {x2 : Int32} {Iz : MI} (ho0 : oX5 z o0) (h : f_X5_toBelt o0 x1 x2 J I = some Iz) : Ct E (d + 0) yX5_toBelt cX5_toBelt 3 none 0 0 [.ref o0, .int x1, .int x2] z J I none z J Iz := by
  unfold f_X5_toBelt at h
  refine Ct.of (own := RX5) (ls := [(0, .ref o0), (1, .int x1), (2, .int x2)]) (by decide) rfl (Nat.le_of_ble_eq_true rfl) rfl ?_
  intro X hr0 hnm hX
  refine g_aload_n hX (pc := 0) (i := 0) dX5_toBelt_0 rfl 0 rfl ?_
  refine gf5_27 hX (pc := 1) ho0 fl_X5_48 dX5_toBelt_1 ?_
  refine g_sipush hX (pc := 4) (v := 371) dX5_toBelt_4 (by decide) ?_
  refine g_aload_n hX (pc := 7) (i := 0) dX5_toBelt_7 rfl 0 rfl ?_
  refine gf5_27 hX (pc := 8) ho0 fl_X5_48 dX5_toBelt_8 ?_
  refine g_sipush hX (pc := 11) (v := 370) dX5_toBelt_11 (by decide) ?_
  obtain ⟨v1, e_v1, h⟩ := bnd h
  refine g_ialoadE hX (pc := 14) (s5_27 ho0).1 (s5_27 ho0).2.1 (s5_27 ho0).2.2.1 e_v1 dX5_toBelt_14 ?_
  refine g_iadd hX (pc := 15) dX5_toBelt_15 ?_
  refine g_bipush hX (pc := 16) (v := 10) dX5_toBelt_16 (by decide) ?_
  refine g_iload_n hX (pc := 18) (i := 1) dX5_toBelt_18 rfl 1 rfl ?_
  refine g_imul hX (pc := 19) dX5_toBelt_19 ?_
  refine g_iload_n hX (pc := 20) (i := 2) dX5_toBelt_20 rfl 2 rfl ?_
  refine g_iadd hX (pc := 21) dX5_toBelt_21 ?_
  obtain ⟨I2, e_I2, h⟩ := bnd h
  refine g_iastoreE hX (pc := 22) (s5_27 ho0).1 (s5_27 ho0).2.1 (s5_27 ho0).2.2.1 e_I2 dX5_toBelt_22 ?_
  refine g_aload_n hX (pc := 23) (i := 0) dX5_toBelt_23 rfl 0 rfl ?_
  refine gf5_27 hX (pc := 24) ho0 fl_X5_48 dX5_toBelt_24 ?_
  refine g_sipush hX (pc := 27) (v := 370) dX5_toBelt_27 (by decide) ?_
  refine g_dup2 hX (pc := 30) dX5_toBelt_30 rfl rfl ?_
  obtain ⟨v3, e_v3, h⟩ := bnd h
  refine g_ialoadE hX (pc := 31) (s5_27 ho0).1 (s5_27 ho0).2.1 (s5_27 ho0).2.2.1 e_v3 dX5_toBelt_31 ?_
  refine g_iconst hX (pc := 32) (v := 1) dX5_toBelt_32 (by decide) ?_
  refine g_iadd hX (pc := 33) dX5_toBelt_33 ?_
  obtain ⟨I4, e_I4, h⟩ := bnd h
  refine g_iastoreE hX (pc := 34) (s5_27 ho0).1 (s5_27 ho0).2.1 (s5_27 ho0).2.2.1 e_I4 dX5_toBelt_34 ?_
  obtain rfl := Option.some.inj h
  exact g_return hX (Nat.le_refl _) (Nat.le_refl _) dX5_toBelt_35
noncomputable def b_X5_earliestBehind_5 (o0 : Nat) (x1 : Int32) (x2 : Int32) (J : MJ) (I : MI) (s : Int32 × Int32) : Option ((Int32 × Int32) ⊕ (Int32 × Int32)) :=
  (rd 2 (I (o0 + 3)) 0).bind fun v4 =>
  if s.2 < v4 then
    (if ((x1 >>> (s.2 &&& 31)) &&& 1) = 0 then
      some s.1
    else
      if x2 < 0 then
        if s.1 < 0 then
          some s.2
        else
          (f_X5_isEarlier o0 s.2 s.1 J I).bind fun r10 =>
          if r10 = 0 then
            some s.1
          else
            some s.2
      else
        (f_X5_isEarlier o0 x2 s.2 J I).bind fun r12 =>
        if r12 = 0 then
          some s.1
        else
          if s.1 < 0 then
            some s.2
          else
            (f_X5_isEarlier o0 s.2 s.1 J I).bind fun r15 =>
            if r15 = 0 then
              some s.1
            else
              some s.2).bind fun (p17 : Int32) =>
    some (.inl ((p17, s.2 + 1)))
  else
    some (.inr ((s.1, s.2)))
noncomputable def f_X5_earliestBehind (o0 : Nat) (x1 : Int32) (x2 : Int32) (J : MJ) (I : MI) : Option (Int32) :=
  (lp (b_X5_earliestBehind_5 o0 x1 x2 J I) (((-1), 0))).bind fun p18 =>
  some p18.1
theorem nm_X5_earliestBehind : yX5_earliestBehind.cls ≠ "java/lang/invoke/MethodHandle" ∧ yX5_earliestBehind.cls ≠ "java/lang/invoke/VarHandle" ∧ (parseMethodDescriptor yX5_earliestBehind.desc).map (fun d => d.parameters.length) = some 2 := by decide +kernel
set_option maxRecDepth 100000 in
set_option maxHeartbeats 4000000 in
theorem ct_X5_earliestBehind {E : Ev} {d : Nat} {z : Sh} {J : MJ} {I : MI} {o0 : Nat} {x1 : Int32} {x2 : Int32} {rr : Int32} (ho0 : oX5 z o0) (h : f_X5_earliestBehind o0 x1 x2 J I = some rr) : Ct E (d + 1) yX5_earliestBehind cX5_earliestBehind 5 (some .int) 0 0 [.ref o0, .int x1, .int x2] z J I (some (.int rr)) z J I := by
  unfold f_X5_earliestBehind at h
  refine Ct.of (own := RX5) (ls := [(0, .ref o0), (1, .int x1), (2, .int x2)]) (by decide) rfl (Nat.le_of_ble_eq_true rfl) rfl ?_
  intro X hr0 hnm hX
  refine g_iconst hX (pc := 0) (v := (-1)) dX5_earliestBehind_0 (by decide) ?_
  refine g_istore_n hX (pc := 1) (i := 3) (ls' := [(0, .ref o0), (1, .int x1), (2, .int x2), (3, .int ((-1)))]) [1, 2, 3, 0] dX5_earliestBehind_1 rfl (by decide) rfl ?_
  refine g_iconst hX (pc := 2) (v := 0) dX5_earliestBehind_2 (by decide) ?_
  refine g_istore hX (pc := 3) (ls' := [(0, .ref o0), (1, .int x1), (2, .int x2), (3, .int ((-1))), (4, .int 0)]) [1, 2, 3, 4, 0] dX5_earliestBehind_3 (by decide) rfl ?_
  obtain ⟨p18, hpl3, h⟩ := bnd h
  have Kl3 : ∀ ql3 : Int32 × Int32, ql3 = p18 → GW E X (QX E X 0 0 (some (.int rr)) z J I) 5 65 [(0, .ref o0), (1, .int x1), (2, .int x2), (3, .int ql3.1), (4, .int ql3.2)] [] z J I 0 0 := by
    intro ql3 hql3
    subst hql3
    refine g_iload_n hX (pc := 65) (i := 3) dX5_earliestBehind_65 rfl 3 rfl ?_
    obtain rfl := Option.some.inj h
    exact g_ireturn hX (Nat.le_refl _) (Nat.le_refl _) dX5_earliestBehind_66
  obtain ⟨kl3, hkl3⟩ := lp_ex hpl3
  clear hpl3 h
  have Ll3 : ∀ k : Nat, ∀ (s1 : Int32) (s2 : Int32), lpN k (b_X5_earliestBehind_5 o0 x1 x2 J I) ((s1, s2)) = some p18 → GW E X (QX E X 0 0 (some (.int rr)) z J I) 5 5 [(0, .ref o0), (1, .int x1), (2, .int x2), (3, .int s1), (4, .int s2)] [] z J I 0 0 := by
    intro k
    induction k with
    | zero => intro s1 s2 h; cases h
    | succ k ihl3 =>
      intro s1 s2 h
      obtain ⟨wl3, h, hwl3⟩ := lpN_s h
      unfold b_X5_earliestBehind_5 at h
      try dsimp only at h
      refine g_iload hX (pc := 5) dX5_earliestBehind_5 4 rfl ?_
      refine g_aload_n hX (pc := 7) (i := 0) dX5_earliestBehind_7 rfl 0 rfl ?_
      refine gf5_14 hX (pc := 8) ho0 fl_X5_17 dX5_earliestBehind_8 ?_
      refine g_iconst hX (pc := 11) (v := 0) dX5_earliestBehind_11 (by decide) ?_
      obtain ⟨v4, e_v4, h⟩ := bnd h
      refine g_ialoadE hX (pc := 12) (s5_14 ho0).1 (s5_14 ho0).2.1 (s5_14 ho0).2.2.1 e_v4 dX5_earliestBehind_12 ?_
      refine g_icmp_ge hX (pc := 13) dX5_earliestBehind_13 (tgt := 65) (by decide) (fun c5 => ?_) (fun c5 => ?_)
      · replace h := ifP c5 h
        refine g_iload_n hX (pc := 16) (i := 1) dX5_earliestBehind_16 rfl 1 rfl ?_
        refine g_iload hX (pc := 17) dX5_earliestBehind_17 4 rfl ?_
        refine g_ishr hX (pc := 19) dX5_earliestBehind_19 ?_
        refine g_iconst hX (pc := 20) (v := 1) dX5_earliestBehind_20 (by decide) ?_
        refine g_iand hX (pc := 21) dX5_earliestBehind_21 ?_
        obtain ⟨p17, hpj7, h⟩ := bnd h
        have Kj7 : ∀ qj7 : Int32, qj7 = p17 → GW E X (QX E X 0 0 (some (.int rr)) z J I) 5 59 [(0, .ref o0), (1, .int x1), (2, .int x2), (3, .int qj7), (4, .int s2)] [] z J I 0 0 := by
          intro qj7 hqj7
          subst hqj7
          refine g_iinc hX (pc := 59) (i := 4) (v := s2 + 1) (ls' := [(0, .ref o0), (1, .int x1), (2, .int x2), (3, .int qj7), (4, .int (s2 + 1))]) 4 [1, 2, 3, 4, 0] dX5_earliestBehind_59 rfl (by rfl) (by decide) rfl ?_
          refine g_goto hX (pc := 62) (tgt := 5) dX5_earliestBehind_62 (by decide) ?_
          obtain rfl := Option.some.inj h
          exact ihl3 qj7 (s2 + 1) hwl3
        replace h := hpj7
        clear hpj7
        refine g_if_eq hX (pc := 22) dX5_earliestBehind_22 (tgt := 59) (by decide) (fun c6 => ?_) (fun c6 => ?_)
        · replace h := ifP c6 h
          exact Kj7 s1 (Option.some.inj h)
        · replace h := ifN c6 h
          refine g_iload_n hX (pc := 25) (i := 2) dX5_earliestBehind_25 rfl 2 rfl ?_
          refine g_if_lt hX (pc := 26) dX5_earliestBehind_26 (tgt := 42) (by decide) (fun c8 => ?_) (fun c8 => ?_)
          · replace h := ifP c8 h
            refine g_iload_n hX (pc := 42) (i := 3) dX5_earliestBehind_42 rfl 3 rfl ?_
            refine g_if_lt hX (pc := 43) dX5_earliestBehind_43 (tgt := 56) (by decide) (fun c9 => ?_) (fun c9 => ?_)
            · replace h := ifP c9 h
              refine g_iload hX (pc := 56) dX5_earliestBehind_56 4 rfl ?_
              refine g_istore_n hX (pc := 58) (i := 3) (ls' := [(0, .ref o0), (1, .int x1), (2, .int x2), (3, .int s2), (4, .int s2)]) [1, 2, 3, 0, 4] dX5_earliestBehind_58 rfl (by decide) rfl ?_
              exact Kj7 s2 (Option.some.inj h)
            · replace h := ifN c9 h
              refine g_aload_n hX (pc := 46) (i := 0) dX5_earliestBehind_46 rfl 0 rfl ?_
              refine g_iload hX (pc := 47) dX5_earliestBehind_47 4 rfl ?_
              refine g_iload_n hX (pc := 49) (i := 3) dX5_earliestBehind_49 rfl 3 rfl ?_
              obtain ⟨r10, e_r10, h⟩ := bnd h
              refine g_callVi hX (pc := 50) (d := d + 0) hr0 [.int s2, .int s1] (c := 5) (ct_X5_isEarlier (d := d + 0) ho0 e_r10) ho0.1.1 ho0.1.2 (by decide) rfl co_X5_isEarlier ml_X5_247 im_X5_isEarlier sl_X5_isEarlier ini_X5 nm_X5_isEarlier (by decide) ⟨Nat.le_refl _, Nat.le_refl _⟩ (Nat.le_refl _) (Nat.le_of_ble_eq_true rfl) rfl dX5_earliestBehind_50 ?_
              refine g_if_eq hX (pc := 53) dX5_earliestBehind_53 (tgt := 59) (by decide) (fun c11 => ?_) (fun c11 => ?_)
              · replace h := ifP c11 h
                exact Kj7 s1 (Option.some.inj h)
              · replace h := ifN c11 h
                refine g_iload hX (pc := 56) dX5_earliestBehind_56 4 rfl ?_
                refine g_istore_n hX (pc := 58) (i := 3) (ls' := [(0, .ref o0), (1, .int x1), (2, .int x2), (3, .int s2), (4, .int s2)]) [1, 2, 3, 0, 4] dX5_earliestBehind_58 rfl (by decide) rfl ?_
                exact Kj7 s2 (Option.some.inj h)
          · replace h := ifN c8 h
            refine g_aload_n hX (pc := 29) (i := 0) dX5_earliestBehind_29 rfl 0 rfl ?_
            refine g_iload_n hX (pc := 30) (i := 2) dX5_earliestBehind_30 rfl 2 rfl ?_
            refine g_iload hX (pc := 31) dX5_earliestBehind_31 4 rfl ?_
            obtain ⟨r12, e_r12, h⟩ := bnd h
            refine g_callVi hX (pc := 33) (d := d + 0) hr0 [.int x2, .int s2] (c := 5) (ct_X5_isEarlier (d := d + 0) ho0 e_r12) ho0.1.1 ho0.1.2 (by decide) rfl co_X5_isEarlier ml_X5_247 im_X5_isEarlier sl_X5_isEarlier ini_X5 nm_X5_isEarlier (by decide) ⟨Nat.le_refl _, Nat.le_refl _⟩ (Nat.le_refl _) (Nat.le_of_ble_eq_true rfl) rfl dX5_earliestBehind_33 ?_
            refine g_if_ne hX (pc := 36) dX5_earliestBehind_36 (tgt := 42) (by decide) (fun c13 => ?_) (fun c13 => ?_)
            · replace h := ifP c13 h
              refine g_goto hX (pc := 39) (tgt := 59) dX5_earliestBehind_39 (by decide) ?_
              exact Kj7 s1 (Option.some.inj h)
            · replace h := ifN c13 h
              refine g_iload_n hX (pc := 42) (i := 3) dX5_earliestBehind_42 rfl 3 rfl ?_
              refine g_if_lt hX (pc := 43) dX5_earliestBehind_43 (tgt := 56) (by decide) (fun c14 => ?_) (fun c14 => ?_)
              · replace h := ifP c14 h
                refine g_iload hX (pc := 56) dX5_earliestBehind_56 4 rfl ?_
                refine g_istore_n hX (pc := 58) (i := 3) (ls' := [(0, .ref o0), (1, .int x1), (2, .int x2), (3, .int s2), (4, .int s2)]) [1, 2, 3, 0, 4] dX5_earliestBehind_58 rfl (by decide) rfl ?_
                exact Kj7 s2 (Option.some.inj h)
              · replace h := ifN c14 h
                refine g_aload_n hX (pc := 46) (i := 0) dX5_earliestBehind_46 rfl 0 rfl ?_
                refine g_iload hX (pc := 47) dX5_earliestBehind_47 4 rfl ?_
                refine g_iload_n hX (pc := 49) (i := 3) dX5_earliestBehind_49 rfl 3 rfl ?_
                obtain ⟨r15, e_r15, h⟩ := bnd h
                refine g_callVi hX (pc := 50) (d := d + 0) hr0 [.int s2, .int s1] (c := 5) (ct_X5_isEarlier (d := d + 0) ho0 e_r15) ho0.1.1 ho0.1.2 (by decide) rfl co_X5_isEarlier ml_X5_247 im_X5_isEarlier sl_X5_isEarlier ini_X5 nm_X5_isEarlier (by decide) ⟨Nat.le_refl _, Nat.le_refl _⟩ (Nat.le_refl _) (Nat.le_of_ble_eq_true rfl) rfl dX5_earliestBehind_50 ?_
                refine g_if_eq hX (pc := 53) dX5_earliestBehind_53 (tgt := 59) (by decide) (fun c16 => ?_) (fun c16 => ?_)
                · replace h := ifP c16 h
                  exact Kj7 s1 (Option.some.inj h)
                · replace h := ifN c16 h
                  refine g_iload hX (pc := 56) dX5_earliestBehind_56 4 rfl ?_
                  refine g_istore_n hX (pc := 58) (i := 3) (ls' := [(0, .ref o0), (1, .int x1), (2, .int x2), (3, .int s2), (4, .int s2)]) [1, 2, 3, 0, 4] dX5_earliestBehind_58 rfl (by decide) rfl ?_
                  exact Kj7 s2 (Option.some.inj h)
      · replace h := ifN c5 h
        obtain rfl := Option.some.inj h
        exact Kl3 ((s1, s2)) hwl3
  exact Ll3 kl3 ((-1)) 0 hkl3
noncomputable def b_X5_release_61 (o0 : Nat) (s6 : Int32) (s : Int32 × MI) : Option ((Int32 × MI) ⊕ (Int32 × MI)) :=
  if s.1 < 10 then
    (rd 320 (s.2 (o0 + 12)) ((10 * s6) + s.1)).bind fun v18 =>
    (wr 2117 s.2 (o0 + 13) ((170 + (10 * s6)) + s.1) v18).bind fun I19 =>
    some (.inl ((s.1 + 1, I19)))
  else
    some (.inr ((s.1, s.2)))
noncomputable def b_X5_release_27 (o0 : Nat) (r2 : Int32) (s : Int32 × MI) : Option ((Int32 × MI) ⊕ (Int32 × MI)) :=
  (rd 2 (s.2 (o0 + 3)) 0).bind fun v9 =>
  if s.1 < v9 then
    (if ((r2 >>> (s.1 &&& 31)) &&& 1) = 0 then
      some s.2
    else
      (wr 2117 s.2 (o0 + 13) (330 + s.1) 1).bind fun I13 =>
      (lp (b_X5_release_61 o0 s.1) ((0, I13))).bind fun p20 =>
      some p20.2).bind fun (p21 : MI) =>
    some (.inl ((s.1 + 1, p21)))
  else
    some (.inr ((s.1, s.2)))
noncomputable def b_X5_release_154 (o0 : Nat) (J : MJ) (v27 : Int32) (s33 : Int32) (s : Int32 × MI) : Option ((Int32 × MI) ⊕ (Int32 × MI)) :=
  if 0 < s.1 then
    (rd 2117 (s.2 (o0 + 13)) ((170 + (10 * s33)) + v27)).bind fun v41 =>
    if 0 < v41 then
      (rd 2117 (s.2 (o0 + 13)) ((170 + (10 * s33)) + v27)).bind fun v43 =>
      (wr 2117 s.2 (o0 + 13) ((170 + (10 * s33)) + v27) (v43 - 1)).bind fun I44 =>
      (f_X5_toBelt o0 s33 v27 J I44).bind fun r45 =>
      some (.inl ((s.1 + (-1), r45)))
    else
      some (.inr ((s.1, s.2)))
  else
    some (.inr ((s.1, s.2)))
noncomputable def b_X5_release_149 (o0 : Nat) (J : MJ) (r2 : Int32) (v27 : Int32) (s : Int32 × Int32 × MI) : Option ((Int32 × Int32 × MI) ⊕ (Int32 × Int32 × MI)) :=
  if s.2.1 < 0 then
    some (.inr ((s.1, s.2.1, s.2.2)))
  else
    (lp (b_X5_release_154 o0 J v27 s.2.1) ((s.1, s.2.2))).bind fun p46 =>
    (f_X5_earliestBehind o0 r2 s.2.1 J p46.2).bind fun r47 =>
    some (.inl ((p46.1, r47, p46.2)))
noncomputable def b_X5_release_107 (o0 : Nat) (J : MJ) (r2 : Int32) (s : Int32 × MI) : Option ((Int32 × MI) ⊕ (Int32 × MI)) :=
  if s.1 < (s.2 o0 35) then
    (rd 10 (s.2 (o0 + 18)) s.1).bind fun v27 =>
    (rd 10 (s.2 (o0 + 19)) s.1).bind fun v28 =>
    (rd 2117 (s.2 (o0 + 13)) v27).bind fun v29 =>
    (wr 2117 s.2 (o0 + 13) v27 (v29 - v28)).bind fun I30 =>
    (f_X5_earliestBehind o0 r2 ((-1)) J I30).bind fun r31 =>
    (lp (b_X5_release_149 o0 J r2 v27) ((v28, r31, I30))).bind fun p48 =>
    some (.inl ((s.1 + 1, p48.2.2)))
  else
    some (.inr ((s.1, s.2)))
noncomputable def f_X5_release (o0 : Nat) (J : MJ) (I : MI) : Option (Int32 × MI) :=
  (wf I o0 0 0).bind fun I1 =>
  (f_X5_nextWave o0 J I1).bind fun r2 =>
  if r2 = 0 then
    some (((-1), I1))
  else
    (f_X5_keeps o0 J I1).bind fun r4 =>
    (f_X5_laysPicks o0 r2 J r4).bind fun r5 =>
    (lp (b_X5_release_27 o0 r2) ((0, r5))).bind fun p22 =>
    (lp (b_X5_release_107 o0 J r2) ((0, p22.2))).bind fun p49 =>
    (f_X5_count1 r2).bind fun r50 =>
    some ((r50, p49.2))
theorem nm_X5_release : yX5_release.cls ≠ "java/lang/invoke/MethodHandle" ∧ yX5_release.cls ≠ "java/lang/invoke/VarHandle" ∧ (parseMethodDescriptor yX5_release.desc).map (fun d => d.parameters.length) = some 0 := by decide +kernel
set_option maxRecDepth 100000 in
set_option maxHeartbeats 4000000 in
theorem ct_X5_release {E : Ev} {d : Nat} {z : Sh} {J : MJ} {I : MI} {o0 : Nat} {rr : Int32} {Iz : MI} (ho0 : oX5 z o0) (h : f_X5_release o0 J I = some ((rr, Iz))) : Ct E (d + 4) yX5_release cX5_release 6 (some .int) 0 0 [.ref o0] z J I (some (.int rr)) z J Iz := by
  unfold f_X5_release at h
  refine Ct.of (own := RX5) (ls := [(0, .ref o0)]) (by decide) rfl (Nat.le_of_ble_eq_true rfl) rfl ?_
  intro X hr0 hnm hX
  refine g_aload_n hX (pc := 0) (i := 0) dX5_release_0 rfl 0 rfl ?_
  refine g_iconst hX (pc := 1) (v := 0) dX5_release_1 (by decide) ?_
  obtain ⟨I1, e_I1, h⟩ := bnd h
  refine pf5_0 hX (pc := 2) ho0 fl_X5_86 dX5_release_2 e_I1 ?_
  refine g_aload_n hX (pc := 5) (i := 0) dX5_release_5 rfl 0 rfl ?_
  obtain ⟨r2, e_r2, h⟩ := bnd h
  refine g_callVi hX (pc := 6) (d := d + 3) hr0 [] (c := 5) (ct_X5_nextWave (d := d + 0) ho0 e_r2) ho0.1.1 ho0.1.2 (by decide) rfl co_X5_nextWave ml_X5_269 im_X5_nextWave sl_X5_nextWave ini_X5 nm_X5_nextWave (by decide) ⟨Nat.le_refl _, Nat.le_refl _⟩ (Nat.le_refl _) (Nat.le_of_ble_eq_true rfl) rfl dX5_release_6 ?_
  refine g_istore_n hX (pc := 9) (i := 1) (ls' := [(0, .ref o0), (1, .int r2)]) [1, 0] dX5_release_9 rfl (by decide) rfl ?_
  refine g_iload_n hX (pc := 10) (i := 1) dX5_release_10 rfl 1 rfl ?_
  refine g_if_ne hX (pc := 11) dX5_release_11 (tgt := 16) (by decide) (fun c3 => ?_) (fun c3 => ?_)
  · replace h := ifP c3 h
    refine g_iconst hX (pc := 14) (v := (-1)) dX5_release_14 (by decide) ?_
    replace h := Option.some.inj h
    obtain ⟨rfl, rfl⟩ := Prod.mk.inj h
    exact g_ireturn hX (Nat.le_refl _) (Nat.le_refl _) dX5_release_15
  · replace h := ifN c3 h
    refine g_aload_n hX (pc := 16) (i := 0) dX5_release_16 rfl 0 rfl ?_
    obtain ⟨r4, e_r4, h⟩ := bnd h
    refine g_callVv hX (pc := 17) (d := d + 3) hr0 [] (c := 5) (ct_X5_keeps (d := d + 3) ho0 e_r4) ho0.1.1 ho0.1.2 (by decide) rfl co_X5_keeps ml_X5_284 im_X5_keeps sl_X5_keeps ini_X5 nm_X5_keeps (by decide) ⟨Nat.le_refl _, Nat.le_refl _⟩ (Nat.le_refl _) (Nat.le_of_ble_eq_true rfl) rfl dX5_release_17 ?_
    refine g_aload_n hX (pc := 20) (i := 0) dX5_release_20 rfl 0 rfl ?_
    refine g_iload_n hX (pc := 21) (i := 1) dX5_release_21 rfl 1 rfl ?_
    obtain ⟨r5, e_r5, h⟩ := bnd h
    refine g_callVv hX (pc := 22) (d := d + 3) hr0 [.int r2] (c := 5) (ct_X5_laysPicks (d := d + 3) ho0 e_r5) ho0.1.1 ho0.1.2 (by decide) rfl co_X5_laysPicks ml_X5_275 im_X5_laysPicks sl_X5_laysPicks ini_X5 nm_X5_laysPicks (by decide) ⟨Nat.le_refl _, Nat.le_refl _⟩ (Nat.le_refl _) (Nat.le_of_ble_eq_true rfl) rfl dX5_release_22 ?_
    refine g_iconst hX (pc := 25) (v := 0) dX5_release_25 (by decide) ?_
    refine g_istore_n hX (pc := 26) (i := 2) (ls' := [(0, .ref o0), (1, .int r2), (2, .int 0)]) [1, 2, 0] dX5_release_26 rfl (by decide) rfl ?_
    obtain ⟨p22, hpl8, h⟩ := bnd h
    have Kl8 : ∀ ql8 : Int32 × MI, ql8 = p22 → GW E X (QX E X 0 0 (some (.int rr)) z J Iz) 6 105 [(0, .ref o0), (1, .int r2), (2, .int ql8.1)] [] z J ql8.2 0 0 := by
      intro ql8 hql8
      subst hql8
      refine g_iconst hX (pc := 105) (v := 0) dX5_release_105 (by decide) ?_
      refine g_istore_n hX (pc := 106) (i := 2) (ls' := [(0, .ref o0), (1, .int r2), (2, .int 0)]) [1, 2, 0] dX5_release_106 rfl (by decide) rfl ?_
      obtain ⟨p49, hpl25, h⟩ := bnd h
      have Kl25 : ∀ ql25 : Int32 × MI, ql25 = p49 → GW E X (QX E X 0 0 (some (.int rr)) z J Iz) 6 229 [(0, .ref o0), (1, .int r2), (2, .int ql25.1)] [] z J ql25.2 0 0 := by
        intro ql25 hql25
        subst hql25
        refine g_iload_n hX (pc := 229) (i := 1) dX5_release_229 rfl 1 rfl ?_
        obtain ⟨r50, e_r50, h⟩ := bnd h
        refine g_callSi hX (pc := 230) (d := d + 3) hr0 [.int r2] (ct_X5_count1 (d := d + 3)  e_r50) co_X5_count1 ml_X5_253 sta_X5_count1 ini_X5 nm_X5_count1 (by decide) ⟨Nat.le_refl _, Nat.le_refl _⟩ (Nat.le_refl _) (Nat.le_of_ble_eq_true rfl) rfl dX5_release_230 ?_
        replace h := Option.some.inj h
        obtain ⟨rfl, rfl⟩ := Prod.mk.inj h
        exact g_ireturn hX (Nat.le_refl _) (Nat.le_refl _) dX5_release_233
      obtain ⟨kl25, hkl25⟩ := lp_ex hpl25
      clear hpl25 h
      have Ll25 : ∀ k : Nat, ∀ (s23 : Int32) (I24 : MI), lpN k (b_X5_release_107 o0 J r2) ((s23, I24)) = some p49 → GW E X (QX E X 0 0 (some (.int rr)) z J Iz) 6 107 [(0, .ref o0), (1, .int r2), (2, .int s23)] [] z J I24 0 0 := by
        intro k
        induction k with
        | zero => intro s23 I24 h; cases h
        | succ k ihl25 =>
          intro s23 I24 h
          obtain ⟨wl25, h, hwl25⟩ := lpN_s h
          unfold b_X5_release_107 at h
          try dsimp only at h
          refine g_iload_n hX (pc := 107) (i := 2) dX5_release_107 rfl 2 rfl ?_
          refine g_aload_n hX (pc := 108) (i := 0) dX5_release_108 rfl 0 rfl ?_
          refine gf5_35 hX (pc := 109) ho0 fl_X5_272 dX5_release_109 ?_
          refine g_icmp_ge hX (pc := 112) dX5_release_112 (tgt := 229) (by decide) (fun c26 => ?_) (fun c26 => ?_)
          · replace h := ifP c26 h
            refine g_aload_n hX (pc := 115) (i := 0) dX5_release_115 rfl 0 rfl ?_
            refine gf5_33 hX (pc := 116) ho0 fl_X5_64 dX5_release_116 ?_
            refine g_iload_n hX (pc := 119) (i := 2) dX5_release_119 rfl 2 rfl ?_
            obtain ⟨v27, e_v27, h⟩ := bnd h
            refine g_ialoadE hX (pc := 120) (s5_33 ho0).1 (s5_33 ho0).2.1 (s5_33 ho0).2.2.1 e_v27 dX5_release_120 ?_
            refine g_istore_n hX (pc := 121) (i := 3) (ls' := [(0, .ref o0), (1, .int r2), (2, .int s23), (3, .int v27)]) [1, 2, 3, 0] dX5_release_121 rfl (by decide) rfl ?_
            refine g_aload_n hX (pc := 122) (i := 0) dX5_release_122 rfl 0 rfl ?_
            refine gf5_34 hX (pc := 123) ho0 fl_X5_67 dX5_release_123 ?_
            refine g_iload_n hX (pc := 126) (i := 2) dX5_release_126 rfl 2 rfl ?_
            obtain ⟨v28, e_v28, h⟩ := bnd h
            refine g_ialoadE hX (pc := 127) (s5_34 ho0).1 (s5_34 ho0).2.1 (s5_34 ho0).2.2.1 e_v28 dX5_release_127 ?_
            refine g_istore hX (pc := 128) (ls' := [(0, .ref o0), (1, .int r2), (2, .int s23), (3, .int v27), (4, .int v28)]) [1, 2, 3, 4, 0] dX5_release_128 (by decide) rfl ?_
            refine g_aload_n hX (pc := 130) (i := 0) dX5_release_130 rfl 0 rfl ?_
            refine gf5_27 hX (pc := 131) ho0 fl_X5_48 dX5_release_131 ?_
            refine g_iload_n hX (pc := 134) (i := 3) dX5_release_134 rfl 3 rfl ?_
            refine g_dup2 hX (pc := 135) dX5_release_135 rfl rfl ?_
            obtain ⟨v29, e_v29, h⟩ := bnd h
            refine g_ialoadE hX (pc := 136) (s5_27 ho0).1 (s5_27 ho0).2.1 (s5_27 ho0).2.2.1 e_v29 dX5_release_136 ?_
            refine g_iload hX (pc := 137) dX5_release_137 4 rfl ?_
            refine g_isub hX (pc := 139) dX5_release_139 ?_
            obtain ⟨I30, e_I30, h⟩ := bnd h
            refine g_iastoreE hX (pc := 140) (s5_27 ho0).1 (s5_27 ho0).2.1 (s5_27 ho0).2.2.1 e_I30 dX5_release_140 ?_
            refine g_aload_n hX (pc := 141) (i := 0) dX5_release_141 rfl 0 rfl ?_
            refine g_iload_n hX (pc := 142) (i := 1) dX5_release_142 rfl 1 rfl ?_
            refine g_iconst hX (pc := 143) (v := (-1)) dX5_release_143 (by decide) ?_
            obtain ⟨r31, e_r31, h⟩ := bnd h
            refine g_callVi hX (pc := 144) (d := d + 3) hr0 [.int r2, .int ((-1))] (c := 5) (ct_X5_earliestBehind (d := d + 2) ho0 e_r31) ho0.1.1 ho0.1.2 (by decide) rfl co_X5_earliestBehind ml_X5_287 im_X5_earliestBehind sl_X5_earliestBehind ini_X5 nm_X5_earliestBehind (by decide) ⟨Nat.le_refl _, Nat.le_refl _⟩ (Nat.le_refl _) (Nat.le_of_ble_eq_true rfl) rfl dX5_release_144 ?_
            refine g_istore hX (pc := 147) (ls' := [(0, .ref o0), (1, .int r2), (2, .int s23), (3, .int v27), (4, .int v28), (5, .int r31)]) [1, 2, 3, 4, 5, 0] dX5_release_147 (by decide) rfl ?_
            obtain ⟨p48, hpl35, h⟩ := bnd h
            have Kl35 : ∀ ql35 : Int32 × Int32 × MI, ql35 = p48 → GW E X (QX E X 0 0 (some (.int rr)) z J Iz) 6 223 [(0, .ref o0), (1, .int r2), (2, .int s23), (3, .int v27), (4, .int ql35.1), (5, .int ql35.2.1)] [] z J ql35.2.2 0 0 := by
              intro ql35 hql35
              subst hql35
              refine g_iinc hX (pc := 223) (i := 2) (v := s23 + 1) (ls' := [(0, .ref o0), (1, .int r2), (2, .int (s23 + 1)), (3, .int v27), (4, .int ql35.1), (5, .int ql35.2.1)]) 2 [1, 2, 0, 3, 4, 5] dX5_release_223 rfl (by rfl) (by decide) rfl ?_
              refine g_goto hX (pc := 226) (tgt := 107) dX5_release_226 (by decide) ?_
              refine g_sub (ls' := [(0, .ref o0), (1, .int r2), (2, .int (s23 + 1))]) [0, 1, 2] rfl ?_
              obtain rfl := Option.some.inj h
              exact ihl25 (s23 + 1) ql35.2.2 hwl25
            obtain ⟨kl35, hkl35⟩ := lp_ex hpl35
            clear hpl35 h
            have Ll35 : ∀ k : Nat, ∀ (s32 : Int32) (s33 : Int32) (I34 : MI), lpN k (b_X5_release_149 o0 J r2 v27) ((s32, s33, I34)) = some p48 → GW E X (QX E X 0 0 (some (.int rr)) z J Iz) 6 149 [(0, .ref o0), (1, .int r2), (2, .int s23), (3, .int v27), (4, .int s32), (5, .int s33)] [] z J I34 0 0 := by
              intro k
              induction k with
              | zero => intro s32 s33 I34 h; cases h
              | succ k ihl35 =>
                intro s32 s33 I34 h
                obtain ⟨wl35, h, hwl35⟩ := lpN_s h
                unfold b_X5_release_149 at h
                try dsimp only at h
                refine g_iload hX (pc := 149) dX5_release_149 5 rfl ?_
                refine g_if_lt hX (pc := 151) dX5_release_151 (tgt := 223) (by decide) (fun c36 => ?_) (fun c36 => ?_)
                · replace h := ifP c36 h
                  obtain rfl := Option.some.inj h
                  exact Kl35 ((s32, s33, I34)) hwl35
                · replace h := ifN c36 h
                  obtain ⟨p46, hpl39, h⟩ := bnd h
                  have Kl39 : ∀ ql39 : Int32 × MI, ql39 = p46 → GW E X (QX E X 0 0 (some (.int rr)) z J Iz) 6 211 [(0, .ref o0), (1, .int r2), (2, .int s23), (3, .int v27), (4, .int ql39.1), (5, .int s33)] [] z J ql39.2 0 0 := by
                    intro ql39 hql39
                    subst hql39
                    refine g_aload_n hX (pc := 211) (i := 0) dX5_release_211 rfl 0 rfl ?_
                    refine g_iload_n hX (pc := 212) (i := 1) dX5_release_212 rfl 1 rfl ?_
                    refine g_iload hX (pc := 213) dX5_release_213 5 rfl ?_
                    obtain ⟨r47, e_r47, h⟩ := bnd h
                    refine g_callVi hX (pc := 215) (d := d + 3) hr0 [.int r2, .int s33] (c := 5) (ct_X5_earliestBehind (d := d + 2) ho0 e_r47) ho0.1.1 ho0.1.2 (by decide) rfl co_X5_earliestBehind ml_X5_287 im_X5_earliestBehind sl_X5_earliestBehind ini_X5 nm_X5_earliestBehind (by decide) ⟨Nat.le_refl _, Nat.le_refl _⟩ (Nat.le_refl _) (Nat.le_of_ble_eq_true rfl) rfl dX5_release_215 ?_
                    refine g_istore hX (pc := 218) (ls' := [(0, .ref o0), (1, .int r2), (2, .int s23), (3, .int v27), (4, .int ql39.1), (5, .int r47)]) [1, 2, 3, 4, 5, 0] dX5_release_218 (by decide) rfl ?_
                    refine g_goto hX (pc := 220) (tgt := 149) dX5_release_220 (by decide) ?_
                    obtain rfl := Option.some.inj h
                    exact ihl35 ql39.1 r47 ql39.2 hwl35
                  obtain ⟨kl39, hkl39⟩ := lp_ex hpl39
                  clear hpl39 h
                  have Ll39 : ∀ k : Nat, ∀ (s37 : Int32) (I38 : MI), lpN k (b_X5_release_154 o0 J v27 s33) ((s37, I38)) = some p46 → GW E X (QX E X 0 0 (some (.int rr)) z J Iz) 6 154 [(0, .ref o0), (1, .int r2), (2, .int s23), (3, .int v27), (4, .int s37), (5, .int s33)] [] z J I38 0 0 := by
                    intro k
                    induction k with
                    | zero => intro s37 I38 h; cases h
                    | succ k ihl39 =>
                      intro s37 I38 h
                      obtain ⟨wl39, h, hwl39⟩ := lpN_s h
                      unfold b_X5_release_154 at h
                      try dsimp only at h
                      refine g_iload hX (pc := 154) dX5_release_154 4 rfl ?_
                      refine g_if_le hX (pc := 156) dX5_release_156 (tgt := 211) (by decide) (fun c40 => ?_) (fun c40 => ?_)
                      · replace h := ifP c40 h
                        refine g_aload_n hX (pc := 159) (i := 0) dX5_release_159 rfl 0 rfl ?_
                        refine gf5_27 hX (pc := 160) ho0 fl_X5_48 dX5_release_160 ?_
                        refine g_sipush hX (pc := 163) (v := 170) dX5_release_163 (by decide) ?_
                        refine g_bipush hX (pc := 166) (v := 10) dX5_release_166 (by decide) ?_
                        refine g_iload hX (pc := 168) dX5_release_168 5 rfl ?_
                        refine g_imul hX (pc := 170) dX5_release_170 ?_
                        refine g_iadd hX (pc := 171) dX5_release_171 ?_
                        refine g_iload_n hX (pc := 172) (i := 3) dX5_release_172 rfl 3 rfl ?_
                        refine g_iadd hX (pc := 173) dX5_release_173 ?_
                        obtain ⟨v41, e_v41, h⟩ := bnd h
                        refine g_ialoadE hX (pc := 174) (s5_27 ho0).1 (s5_27 ho0).2.1 (s5_27 ho0).2.2.1 e_v41 dX5_release_174 ?_
                        refine g_if_le hX (pc := 175) dX5_release_175 (tgt := 211) (by decide) (fun c42 => ?_) (fun c42 => ?_)
                        · replace h := ifP c42 h
                          refine g_aload_n hX (pc := 178) (i := 0) dX5_release_178 rfl 0 rfl ?_
                          refine gf5_27 hX (pc := 179) ho0 fl_X5_48 dX5_release_179 ?_
                          refine g_sipush hX (pc := 182) (v := 170) dX5_release_182 (by decide) ?_
                          refine g_bipush hX (pc := 185) (v := 10) dX5_release_185 (by decide) ?_
                          refine g_iload hX (pc := 187) dX5_release_187 5 rfl ?_
                          refine g_imul hX (pc := 189) dX5_release_189 ?_
                          refine g_iadd hX (pc := 190) dX5_release_190 ?_
                          refine g_iload_n hX (pc := 191) (i := 3) dX5_release_191 rfl 3 rfl ?_
                          refine g_iadd hX (pc := 192) dX5_release_192 ?_
                          refine g_dup2 hX (pc := 193) dX5_release_193 rfl rfl ?_
                          obtain ⟨v43, e_v43, h⟩ := bnd h
                          refine g_ialoadE hX (pc := 194) (s5_27 ho0).1 (s5_27 ho0).2.1 (s5_27 ho0).2.2.1 e_v43 dX5_release_194 ?_
                          refine g_iconst hX (pc := 195) (v := 1) dX5_release_195 (by decide) ?_
                          refine g_isub hX (pc := 196) dX5_release_196 ?_
                          obtain ⟨I44, e_I44, h⟩ := bnd h
                          refine g_iastoreE hX (pc := 197) (s5_27 ho0).1 (s5_27 ho0).2.1 (s5_27 ho0).2.2.1 e_I44 dX5_release_197 ?_
                          refine g_iinc hX (pc := 198) (i := 4) (v := s37 + (-1)) (ls' := [(0, .ref o0), (1, .int r2), (2, .int s23), (3, .int v27), (4, .int (s37 + (-1))), (5, .int s33)]) 4 [1, 2, 3, 4, 0, 5] dX5_release_198 rfl (by rfl) (by decide) rfl ?_
                          refine g_aload_n hX (pc := 201) (i := 0) dX5_release_201 rfl 0 rfl ?_
                          refine g_iload hX (pc := 202) dX5_release_202 5 rfl ?_
                          refine g_iload_n hX (pc := 204) (i := 3) dX5_release_204 rfl 3 rfl ?_
                          obtain ⟨r45, e_r45, h⟩ := bnd h
                          refine g_callVv hX (pc := 205) (d := d + 3) hr0 [.int s33, .int v27] (c := 5) (ct_X5_toBelt (d := d + 3) ho0 e_r45) ho0.1.1 ho0.1.2 (by decide) rfl co_X5_toBelt ml_X5_290 im_X5_toBelt sl_X5_toBelt ini_X5 nm_X5_toBelt (by decide) ⟨Nat.le_refl _, Nat.le_refl _⟩ (Nat.le_refl _) (Nat.le_of_ble_eq_true rfl) rfl dX5_release_205 ?_
                          refine g_goto hX (pc := 208) (tgt := 154) dX5_release_208 (by decide) ?_
                          obtain rfl := Option.some.inj h
                          exact ihl39 (s37 + (-1)) r45 hwl39
                        · replace h := ifN c42 h
                          obtain rfl := Option.some.inj h
                          exact Kl39 ((s37, I38)) hwl39
                      · replace h := ifN c40 h
                        obtain rfl := Option.some.inj h
                        exact Kl39 ((s37, I38)) hwl39
                  exact Ll39 kl39 s32 I34 hkl39
            exact Ll35 kl35 v28 r31 I30 hkl35
          · replace h := ifN c26 h
            obtain rfl := Option.some.inj h
            exact Kl25 ((s23, I24)) hwl25
      exact Ll25 kl25 0 ql8.2 hkl25
    obtain ⟨kl8, hkl8⟩ := lp_ex hpl8
    clear hpl8 h
    have Ll8 : ∀ k : Nat, ∀ (s6 : Int32) (I7 : MI), lpN k (b_X5_release_27 o0 r2) ((s6, I7)) = some p22 → GW E X (QX E X 0 0 (some (.int rr)) z J Iz) 6 27 [(0, .ref o0), (1, .int r2), (2, .int s6)] [] z J I7 0 0 := by
      intro k
      induction k with
      | zero => intro s6 I7 h; cases h
      | succ k ihl8 =>
        intro s6 I7 h
        obtain ⟨wl8, h, hwl8⟩ := lpN_s h
        unfold b_X5_release_27 at h
        try dsimp only at h
        refine g_iload_n hX (pc := 27) (i := 2) dX5_release_27 rfl 2 rfl ?_
        refine g_aload_n hX (pc := 28) (i := 0) dX5_release_28 rfl 0 rfl ?_
        refine gf5_14 hX (pc := 29) ho0 fl_X5_17 dX5_release_29 ?_
        refine g_iconst hX (pc := 32) (v := 0) dX5_release_32 (by decide) ?_
        obtain ⟨v9, e_v9, h⟩ := bnd h
        refine g_ialoadE hX (pc := 33) (s5_14 ho0).1 (s5_14 ho0).2.1 (s5_14 ho0).2.2.1 e_v9 dX5_release_33 ?_
        refine g_icmp_ge hX (pc := 34) dX5_release_34 (tgt := 105) (by decide) (fun c10 => ?_) (fun c10 => ?_)
        · replace h := ifP c10 h
          refine g_iload_n hX (pc := 37) (i := 1) dX5_release_37 rfl 1 rfl ?_
          refine g_iload_n hX (pc := 38) (i := 2) dX5_release_38 rfl 2 rfl ?_
          refine g_ishr hX (pc := 39) dX5_release_39 ?_
          refine g_iconst hX (pc := 40) (v := 1) dX5_release_40 (by decide) ?_
          refine g_iand hX (pc := 41) dX5_release_41 ?_
          obtain ⟨p21, hpj12, h⟩ := bnd h
          have Kj12 : ∀ qj12 : MI, qj12 = p21 → GW E X (QX E X 0 0 (some (.int rr)) z J Iz) 6 99 [(0, .ref o0), (1, .int r2), (2, .int s6)] [] z J qj12 0 0 := by
            intro qj12 hqj12
            subst hqj12
            refine g_iinc hX (pc := 99) (i := 2) (v := s6 + 1) (ls' := [(0, .ref o0), (1, .int r2), (2, .int (s6 + 1))]) 2 [1, 2, 0] dX5_release_99 rfl (by rfl) (by decide) rfl ?_
            refine g_goto hX (pc := 102) (tgt := 27) dX5_release_102 (by decide) ?_
            obtain rfl := Option.some.inj h
            exact ihl8 (s6 + 1) qj12 hwl8
          replace h := hpj12
          clear hpj12
          refine g_if_ne hX (pc := 42) dX5_release_42 (tgt := 48) (by decide) (fun c11 => ?_) (fun c11 => ?_)
          · replace h := ifP c11 h
            refine g_goto hX (pc := 45) (tgt := 99) dX5_release_45 (by decide) ?_
            exact Kj12 I7 (Option.some.inj h)
          · replace h := ifN c11 h
            refine g_aload_n hX (pc := 48) (i := 0) dX5_release_48 rfl 0 rfl ?_
            refine gf5_27 hX (pc := 49) ho0 fl_X5_48 dX5_release_49 ?_
            refine g_sipush hX (pc := 52) (v := 330) dX5_release_52 (by decide) ?_
            refine g_iload_n hX (pc := 55) (i := 2) dX5_release_55 rfl 2 rfl ?_
            refine g_iadd hX (pc := 56) dX5_release_56 ?_
            refine g_iconst hX (pc := 57) (v := 1) dX5_release_57 (by decide) ?_
            obtain ⟨I13, e_I13, h⟩ := bnd h
            refine g_iastoreE hX (pc := 58) (s5_27 ho0).1 (s5_27 ho0).2.1 (s5_27 ho0).2.2.1 e_I13 dX5_release_58 ?_
            refine g_iconst hX (pc := 59) (v := 0) dX5_release_59 (by decide) ?_
            refine g_istore_n hX (pc := 60) (i := 3) (ls' := [(0, .ref o0), (1, .int r2), (2, .int s6), (3, .int 0)]) [1, 2, 3, 0] dX5_release_60 rfl (by decide) rfl ?_
            obtain ⟨p20, hpl16, h⟩ := bnd h
            have Kl16 : ∀ ql16 : Int32 × MI, ql16 = p20 → GW E X (QX E X 0 0 (some (.int rr)) z J Iz) 6 99 [(0, .ref o0), (1, .int r2), (2, .int s6), (3, .int ql16.1)] [] z J ql16.2 0 0 := by
              intro ql16 hql16
              subst hql16
              refine g_sub (ls' := [(0, .ref o0), (1, .int r2), (2, .int s6)]) [0, 1, 2] rfl ?_
              exact Kj12 ql16.2 (Option.some.inj h)
            obtain ⟨kl16, hkl16⟩ := lp_ex hpl16
            clear hpl16 h
            have Ll16 : ∀ k : Nat, ∀ (s14 : Int32) (I15 : MI), lpN k (b_X5_release_61 o0 s6) ((s14, I15)) = some p20 → GW E X (QX E X 0 0 (some (.int rr)) z J Iz) 6 61 [(0, .ref o0), (1, .int r2), (2, .int s6), (3, .int s14)] [] z J I15 0 0 := by
              intro k
              induction k with
              | zero => intro s14 I15 h; cases h
              | succ k ihl16 =>
                intro s14 I15 h
                obtain ⟨wl16, h, hwl16⟩ := lpN_s h
                unfold b_X5_release_61 at h
                try dsimp only at h
                refine g_iload_n hX (pc := 61) (i := 3) dX5_release_61 rfl 3 rfl ?_
                refine g_bipush hX (pc := 62) (v := 10) dX5_release_62 (by decide) ?_
                refine g_icmp_ge hX (pc := 64) dX5_release_64 (tgt := 99) (by decide) (fun c17 => ?_) (fun c17 => ?_)
                · replace h := ifP c17 h
                  refine g_aload_n hX (pc := 67) (i := 0) dX5_release_67 rfl 0 rfl ?_
                  refine gf5_27 hX (pc := 68) ho0 fl_X5_48 dX5_release_68 ?_
                  refine g_sipush hX (pc := 71) (v := 170) dX5_release_71 (by decide) ?_
                  refine g_bipush hX (pc := 74) (v := 10) dX5_release_74 (by decide) ?_
                  refine g_iload_n hX (pc := 76) (i := 2) dX5_release_76 rfl 2 rfl ?_
                  refine g_imul hX (pc := 77) dX5_release_77 ?_
                  refine g_iadd hX (pc := 78) dX5_release_78 ?_
                  refine g_iload_n hX (pc := 79) (i := 3) dX5_release_79 rfl 3 rfl ?_
                  refine g_iadd hX (pc := 80) dX5_release_80 ?_
                  refine g_aload_n hX (pc := 81) (i := 0) dX5_release_81 rfl 0 rfl ?_
                  refine gf5_23 hX (pc := 82) ho0 fl_X5_45 dX5_release_82 ?_
                  refine g_bipush hX (pc := 85) (v := 10) dX5_release_85 (by decide) ?_
                  refine g_iload_n hX (pc := 87) (i := 2) dX5_release_87 rfl 2 rfl ?_
                  refine g_imul hX (pc := 88) dX5_release_88 ?_
                  refine g_iload_n hX (pc := 89) (i := 3) dX5_release_89 rfl 3 rfl ?_
                  refine g_iadd hX (pc := 90) dX5_release_90 ?_
                  obtain ⟨v18, e_v18, h⟩ := bnd h
                  refine g_ialoadE hX (pc := 91) (s5_23 ho0).1 (s5_23 ho0).2.1 (s5_23 ho0).2.2.1 e_v18 dX5_release_91 ?_
                  obtain ⟨I19, e_I19, h⟩ := bnd h
                  refine g_iastoreE hX (pc := 92) (s5_27 ho0).1 (s5_27 ho0).2.1 (s5_27 ho0).2.2.1 e_I19 dX5_release_92 ?_
                  refine g_iinc hX (pc := 93) (i := 3) (v := s14 + 1) (ls' := [(0, .ref o0), (1, .int r2), (2, .int s6), (3, .int (s14 + 1))]) 3 [1, 2, 3, 0] dX5_release_93 rfl (by rfl) (by decide) rfl ?_
                  refine g_goto hX (pc := 96) (tgt := 61) dX5_release_96 (by decide) ?_
                  obtain rfl := Option.some.inj h
                  exact ihl16 (s14 + 1) I19 hwl16
                · replace h := ifN c17 h
                  obtain rfl := Option.some.inj h
                  exact Kl16 ((s14, I15)) hwl16
            exact Ll16 kl16 0 I13 hkl16
        · replace h := ifN c10 h
          obtain rfl := Option.some.inj h
          exact Kl8 ((s6, I7)) hwl8
    exact Ll8 kl8 0 r5 hkl8
noncomputable def b_X5_freeHole_2 (o0 : Nat) (I : MI) (s : Int32) : Option ((Int32) ⊕ ((Int32) ⊕ (Int32))) :=
  (rd 2 (I (o0 + 4)) 0).bind fun v3 =>
  if s < v3 then
    (rd 2117 (I (o0 + 13)) (362 + s)).bind fun v5 =>
    if v5 < 0 then
      some (.inr (.inl s))
    else
      some (.inl (s + 1))
  else
    some (.inr (.inr s))
noncomputable def f_X5_freeHole (o0 : Nat) (J : MJ) (I : MI) : Option (Int32) :=
  (lp (b_X5_freeHole_2 o0 I) 0).bind fun p7 =>
  Sum.elim (fun rr => some rr) (fun q8 =>
    some ((-1))) p7
theorem nm_X5_freeHole : yX5_freeHole.cls ≠ "java/lang/invoke/MethodHandle" ∧ yX5_freeHole.cls ≠ "java/lang/invoke/VarHandle" ∧ (parseMethodDescriptor yX5_freeHole.desc).map (fun d => d.parameters.length) = some 0 := by decide +kernel
set_option maxRecDepth 100000 in
set_option maxHeartbeats 4000000 in
theorem ct_X5_freeHole {E : Ev} {d : Nat} {z : Sh} {J : MJ} {I : MI} {o0 : Nat} {rr : Int32} (ho0 : oX5 z o0) (h : f_X5_freeHole o0 J I = some rr) : Ct E (d + 0) yX5_freeHole cX5_freeHole 2 (some .int) 0 0 [.ref o0] z J I (some (.int rr)) z J I := by
  unfold f_X5_freeHole at h
  refine Ct.of (own := RX5) (ls := [(0, .ref o0)]) (by decide) rfl (Nat.le_of_ble_eq_true rfl) rfl ?_
  intro X hr0 hnm hX
  refine g_iconst hX (pc := 0) (v := 0) dX5_freeHole_0 (by decide) ?_
  refine g_istore_n hX (pc := 1) (i := 1) (ls' := [(0, .ref o0), (1, .int 0)]) [1, 0] dX5_freeHole_1 rfl (by decide) rfl ?_
  obtain ⟨p7, hpl2, h⟩ := bnd h
  have KRl2 : ∀ rl2 : Int32, Sum.inl rl2 = p7 → some rl2 = some rr := by intro rl2 hrl2; subst hrl2; exact h
  have Kl2 : ∀ q8 : Int32, Sum.inr q8 = p7 → GW E X (QX E X 0 0 (some (.int rr)) z J I) 2 33 [(0, .ref o0), (1, .int q8)] [] z J I 0 0 := by
    intro q8 hql2
    subst hql2
    refine g_iconst hX (pc := 33) (v := (-1)) dX5_freeHole_33 (by decide) ?_
    obtain rfl := Option.some.inj h
    exact g_ireturn hX (Nat.le_refl _) (Nat.le_refl _) dX5_freeHole_34
  obtain ⟨kl2, hkl2⟩ := lp_ex hpl2
  clear hpl2 h
  have Ll2 : ∀ k : Nat, ∀ (s1 : Int32), lpN k (b_X5_freeHole_2 o0 I) s1 = some p7 → GW E X (QX E X 0 0 (some (.int rr)) z J I) 2 2 [(0, .ref o0), (1, .int s1)] [] z J I 0 0 := by
    intro k
    induction k with
    | zero => intro s1 h; cases h
    | succ k ihl2 =>
      intro s1 h
      obtain ⟨wl2, h, hwl2⟩ := lpN_s h
      unfold b_X5_freeHole_2 at h
      try dsimp only at h
      refine g_iload_n hX (pc := 2) (i := 1) dX5_freeHole_2 rfl 1 rfl ?_
      refine g_aload_n hX (pc := 3) (i := 0) dX5_freeHole_3 rfl 0 rfl ?_
      refine gf5_15 hX (pc := 4) ho0 fl_X5_20 dX5_freeHole_4 ?_
      refine g_iconst hX (pc := 7) (v := 0) dX5_freeHole_7 (by decide) ?_
      obtain ⟨v3, e_v3, h⟩ := bnd h
      refine g_ialoadE hX (pc := 8) (s5_15 ho0).1 (s5_15 ho0).2.1 (s5_15 ho0).2.2.1 e_v3 dX5_freeHole_8 ?_
      refine g_icmp_ge hX (pc := 9) dX5_freeHole_9 (tgt := 33) (by decide) (fun c4 => ?_) (fun c4 => ?_)
      · replace h := ifP c4 h
        refine g_aload_n hX (pc := 12) (i := 0) dX5_freeHole_12 rfl 0 rfl ?_
        refine gf5_27 hX (pc := 13) ho0 fl_X5_48 dX5_freeHole_13 ?_
        refine g_sipush hX (pc := 16) (v := 362) dX5_freeHole_16 (by decide) ?_
        refine g_iload_n hX (pc := 19) (i := 1) dX5_freeHole_19 rfl 1 rfl ?_
        refine g_iadd hX (pc := 20) dX5_freeHole_20 ?_
        obtain ⟨v5, e_v5, h⟩ := bnd h
        refine g_ialoadE hX (pc := 21) (s5_27 ho0).1 (s5_27 ho0).2.1 (s5_27 ho0).2.2.1 e_v5 dX5_freeHole_21 ?_
        refine g_if_ge hX (pc := 22) dX5_freeHole_22 (tgt := 27) (by decide) (fun c6 => ?_) (fun c6 => ?_)
        · replace h := ifP c6 h
          refine g_iload_n hX (pc := 25) (i := 1) dX5_freeHole_25 rfl 1 rfl ?_
          obtain rfl := Option.some.inj h
          replace h := KRl2 _ hwl2
          obtain rfl := Option.some.inj h
          exact g_ireturn hX (Nat.le_refl _) (Nat.le_refl _) dX5_freeHole_26
        · replace h := ifN c6 h
          refine g_iinc hX (pc := 27) (i := 1) (v := s1 + 1) (ls' := [(0, .ref o0), (1, .int (s1 + 1))]) 1 [1, 0] dX5_freeHole_27 rfl (by rfl) (by decide) rfl ?_
          refine g_goto hX (pc := 30) (tgt := 2) dX5_freeHole_30 (by decide) ?_
          obtain rfl := Option.some.inj h
          exact ihl2 (s1 + 1) hwl2
      · replace h := ifN c4 h
        obtain rfl := Option.some.inj h
        exact Kl2 s1 hwl2
  exact Ll2 kl2 0 hkl2
noncomputable def f_X5_canCome (o0 : Nat) (x1 : Int32) (J : MJ) (I : MI) : Option (Int32) :=
  (rd 2117 (I (o0 + 13)) (330 + x1)).bind fun v1 =>
  (if v1 = 2 then
    some 1
  else
    (rd 2117 (I (o0 + 13)) (330 + x1)).bind fun v4 =>
    if v4 = 3 then
      some 1
    else
      (f_X5_freeHole o0 J I).bind fun r6 =>
      if r6 < 0 then
        some 0
      else
        some 1).bind fun (p8 : Int32) =>
  (gb p8).bind fun b9 =>
  some p8
theorem nm_X5_canCome : yX5_canCome.cls ≠ "java/lang/invoke/MethodHandle" ∧ yX5_canCome.cls ≠ "java/lang/invoke/VarHandle" ∧ (parseMethodDescriptor yX5_canCome.desc).map (fun d => d.parameters.length) = some 1 := by decide +kernel
set_option maxRecDepth 100000 in
set_option maxHeartbeats 4000000 in
theorem ct_X5_canCome {E : Ev} {d : Nat} {z : Sh} {J : MJ} {I : MI} {o0 : Nat} {x1 : Int32} {rr : Int32} (ho0 : oX5 z o0) (h : f_X5_canCome o0 x1 J I = some rr) : Ct E (d + 1) yX5_canCome cX5_canCome 2 (some .boolean) 0 0 [.ref o0, .int x1] z J I (some (.int rr)) z J I := by
  unfold f_X5_canCome at h
  refine Ct.of (own := RX5) (ls := [(0, .ref o0), (1, .int x1)]) (by decide) rfl (Nat.le_of_ble_eq_true rfl) rfl ?_
  intro X hr0 hnm hX
  refine g_aload_n hX (pc := 0) (i := 0) dX5_canCome_0 rfl 0 rfl ?_
  refine gf5_27 hX (pc := 1) ho0 fl_X5_48 dX5_canCome_1 ?_
  refine g_sipush hX (pc := 4) (v := 330) dX5_canCome_4 (by decide) ?_
  refine g_iload_n hX (pc := 7) (i := 1) dX5_canCome_7 rfl 1 rfl ?_
  refine g_iadd hX (pc := 8) dX5_canCome_8 ?_
  obtain ⟨v1, e_v1, h⟩ := bnd h
  refine g_ialoadE hX (pc := 9) (s5_27 ho0).1 (s5_27 ho0).2.1 (s5_27 ho0).2.2.1 e_v1 dX5_canCome_9 ?_
  refine g_iconst hX (pc := 10) (v := 2) dX5_canCome_10 (by decide) ?_
  obtain ⟨p8, hpj3, h⟩ := bnd h
  have Kj3 : ∀ qj3 : Int32, qj3 = p8 → GW E X (QX E X 0 0 (some (.int rr)) z J I) 2 40 [(0, .ref o0), (1, .int x1)] [.int qj3] z J I 0 0 := by
    intro qj3 hqj3
    subst hqj3
    obtain ⟨b9, e_b9, h⟩ := bnd h
    obtain rfl := Option.some.inj h
    exact g_zreturn hX (gb_some e_b9).1 (Nat.le_refl _) (Nat.le_refl _) dX5_canCome_40
  replace h := hpj3
  clear hpj3
  refine g_icmp_eq hX (pc := 11) dX5_canCome_11 (tgt := 35) (by decide) (fun c2 => ?_) (fun c2 => ?_)
  · replace h := ifP c2 h
    refine g_iconst hX (pc := 35) (v := 1) dX5_canCome_35 (by decide) ?_
    refine g_goto hX (pc := 36) (tgt := 40) dX5_canCome_36 (by decide) ?_
    exact Kj3 1 (Option.some.inj h)
  · replace h := ifN c2 h
    refine g_aload_n hX (pc := 14) (i := 0) dX5_canCome_14 rfl 0 rfl ?_
    refine gf5_27 hX (pc := 15) ho0 fl_X5_48 dX5_canCome_15 ?_
    refine g_sipush hX (pc := 18) (v := 330) dX5_canCome_18 (by decide) ?_
    refine g_iload_n hX (pc := 21) (i := 1) dX5_canCome_21 rfl 1 rfl ?_
    refine g_iadd hX (pc := 22) dX5_canCome_22 ?_
    obtain ⟨v4, e_v4, h⟩ := bnd h
    refine g_ialoadE hX (pc := 23) (s5_27 ho0).1 (s5_27 ho0).2.1 (s5_27 ho0).2.2.1 e_v4 dX5_canCome_23 ?_
    refine g_iconst hX (pc := 24) (v := 3) dX5_canCome_24 (by decide) ?_
    refine g_icmp_eq hX (pc := 25) dX5_canCome_25 (tgt := 35) (by decide) (fun c5 => ?_) (fun c5 => ?_)
    · replace h := ifP c5 h
      refine g_iconst hX (pc := 35) (v := 1) dX5_canCome_35 (by decide) ?_
      refine g_goto hX (pc := 36) (tgt := 40) dX5_canCome_36 (by decide) ?_
      exact Kj3 1 (Option.some.inj h)
    · replace h := ifN c5 h
      refine g_aload_n hX (pc := 28) (i := 0) dX5_canCome_28 rfl 0 rfl ?_
      obtain ⟨r6, e_r6, h⟩ := bnd h
      refine g_callVi hX (pc := 29) (d := d + 0) hr0 [] (c := 5) (ct_X5_freeHole (d := d + 0) ho0 e_r6) ho0.1.1 ho0.1.2 (by decide) rfl co_X5_freeHole ml_X5_294 im_X5_freeHole sl_X5_freeHole ini_X5 nm_X5_freeHole (by decide) ⟨Nat.le_refl _, Nat.le_refl _⟩ (Nat.le_refl _) (Nat.le_of_ble_eq_true rfl) rfl dX5_canCome_29 ?_
      refine g_if_lt hX (pc := 32) dX5_canCome_32 (tgt := 39) (by decide) (fun c7 => ?_) (fun c7 => ?_)
      · replace h := ifP c7 h
        refine g_iconst hX (pc := 39) (v := 0) dX5_canCome_39 (by decide) ?_
        exact Kj3 0 (Option.some.inj h)
      · replace h := ifN c7 h
        refine g_iconst hX (pc := 35) (v := 1) dX5_canCome_35 (by decide) ?_
        refine g_goto hX (pc := 36) (tgt := 40) dX5_canCome_36 (by decide) ?_
        exact Kj3 1 (Option.some.inj h)
noncomputable def f_X5_freesHole (o0 : Nat) (x1 : Int32) (J : MJ) (I : MI) : Option (MI) :=
  (rd 2117 (I (o0 + 13)) (346 + x1)).bind fun v1 =>
  if v1 < 0 then
    some I
  else
    (rd 2117 (I (o0 + 13)) (346 + x1)).bind fun v3 =>
    (wr 2117 I (o0 + 13) (362 + v3) ((-1))).bind fun I4 =>
    (wr 2117 I4 (o0 + 13) (346 + x1) ((-1))).bind fun I5 =>
    some I5
theorem nm_X5_freesHole : yX5_freesHole.cls ≠ "java/lang/invoke/MethodHandle" ∧ yX5_freesHole.cls ≠ "java/lang/invoke/VarHandle" ∧ (parseMethodDescriptor yX5_freesHole.desc).map (fun d => d.parameters.length) = some 1 := by decide +kernel
set_option maxRecDepth 100000 in
set_option maxHeartbeats 4000000 in
theorem ct_X5_freesHole {E : Ev} {d : Nat} {z : Sh} {J : MJ} {I : MI} {o0 : Nat} {x1 : Int32} {Iz : MI} (ho0 : oX5 z o0) (h : f_X5_freesHole o0 x1 J I = some Iz) : Ct E (d + 0) yX5_freesHole cX5_freesHole 2 none 0 0 [.ref o0, .int x1] z J I none z J Iz := by
  unfold f_X5_freesHole at h
  refine Ct.of (own := RX5) (ls := [(0, .ref o0), (1, .int x1)]) (by decide) rfl (Nat.le_of_ble_eq_true rfl) rfl ?_
  intro X hr0 hnm hX
  refine g_aload_n hX (pc := 0) (i := 0) dX5_freesHole_0 rfl 0 rfl ?_
  refine gf5_27 hX (pc := 1) ho0 fl_X5_48 dX5_freesHole_1 ?_
  refine g_sipush hX (pc := 4) (v := 346) dX5_freesHole_4 (by decide) ?_
  refine g_iload_n hX (pc := 7) (i := 1) dX5_freesHole_7 rfl 1 rfl ?_
  refine g_iadd hX (pc := 8) dX5_freesHole_8 ?_
  obtain ⟨v1, e_v1, h⟩ := bnd h
  refine g_ialoadE hX (pc := 9) (s5_27 ho0).1 (s5_27 ho0).2.1 (s5_27 ho0).2.2.1 e_v1 dX5_freesHole_9 ?_
  refine g_if_ge hX (pc := 10) dX5_freesHole_10 (tgt := 14) (by decide) (fun c2 => ?_) (fun c2 => ?_)
  · replace h := ifP c2 h
    obtain rfl := Option.some.inj h
    exact g_return hX (Nat.le_refl _) (Nat.le_refl _) dX5_freesHole_13
  · replace h := ifN c2 h
    refine g_aload_n hX (pc := 14) (i := 0) dX5_freesHole_14 rfl 0 rfl ?_
    refine gf5_27 hX (pc := 15) ho0 fl_X5_48 dX5_freesHole_15 ?_
    refine g_sipush hX (pc := 18) (v := 362) dX5_freesHole_18 (by decide) ?_
    refine g_aload_n hX (pc := 21) (i := 0) dX5_freesHole_21 rfl 0 rfl ?_
    refine gf5_27 hX (pc := 22) ho0 fl_X5_48 dX5_freesHole_22 ?_
    refine g_sipush hX (pc := 25) (v := 346) dX5_freesHole_25 (by decide) ?_
    refine g_iload_n hX (pc := 28) (i := 1) dX5_freesHole_28 rfl 1 rfl ?_
    refine g_iadd hX (pc := 29) dX5_freesHole_29 ?_
    obtain ⟨v3, e_v3, h⟩ := bnd h
    refine g_ialoadE hX (pc := 30) (s5_27 ho0).1 (s5_27 ho0).2.1 (s5_27 ho0).2.2.1 e_v3 dX5_freesHole_30 ?_
    refine g_iadd hX (pc := 31) dX5_freesHole_31 ?_
    refine g_iconst hX (pc := 32) (v := (-1)) dX5_freesHole_32 (by decide) ?_
    obtain ⟨I4, e_I4, h⟩ := bnd h
    refine g_iastoreE hX (pc := 33) (s5_27 ho0).1 (s5_27 ho0).2.1 (s5_27 ho0).2.2.1 e_I4 dX5_freesHole_33 ?_
    refine g_aload_n hX (pc := 34) (i := 0) dX5_freesHole_34 rfl 0 rfl ?_
    refine gf5_27 hX (pc := 35) ho0 fl_X5_48 dX5_freesHole_35 ?_
    refine g_sipush hX (pc := 38) (v := 346) dX5_freesHole_38 (by decide) ?_
    refine g_iload_n hX (pc := 41) (i := 1) dX5_freesHole_41 rfl 1 rfl ?_
    refine g_iadd hX (pc := 42) dX5_freesHole_42 ?_
    refine g_iconst hX (pc := 43) (v := (-1)) dX5_freesHole_43 (by decide) ?_
    obtain ⟨I5, e_I5, h⟩ := bnd h
    refine g_iastoreE hX (pc := 44) (s5_27 ho0).1 (s5_27 ho0).2.1 (s5_27 ho0).2.2.1 e_I5 dX5_freesHole_44 ?_
    obtain rfl := Option.some.inj h
    exact g_return hX (Nat.le_refl _) (Nat.le_refl _) dX5_freesHole_45
noncomputable def f_X5_comes (o0 : Nat) (x1 : Int32) (x2 : Int32) (J : MJ) (I : MI) : Option (MI) :=
  (rd 2117 (I (o0 + 13)) (330 + x1)).bind fun v1 =>
  (if v1 = 1 then
    (f_X5_freeHole o0 J I).bind fun r4 =>
    (wr 2117 I (o0 + 13) (362 + r4) x1).bind fun I5 =>
    (wr 2117 I5 (o0 + 13) (346 + x1) r4).bind fun I6 =>
    (wr 2117 I6 (o0 + 13) (330 + x1) 2).bind fun I7 =>
    some I7
  else
    some I).bind fun (p8 : MI) =>
  (rd 2117 (p8 (o0 + 13)) ((10 + (10 * x1)) + x2)).bind fun v9 =>
  (wr 2117 p8 (o0 + 13) ((10 + (10 * x1)) + x2) (v9 + 1)).bind fun I10 =>
  (f_X5_sumOf o0 10 x1 J I10).bind fun r11 =>
  (f_X5_needOf o0 x1 J I10).bind fun r12 =>
  if r11 < r12 then
    some I10
  else
    (f_X5_freesHole o0 x1 J I10).bind fun r14 =>
    (wr 2117 r14 (o0 + 13) (330 + x1) 4).bind fun I15 =>
    (rd 2117 (I15 (o0 + 13)) 2100).bind fun v16 =>
    (wr 2117 I15 (o0 + 13) (2101 + v16) x1).bind fun I17 =>
    (rd 2117 (I17 (o0 + 13)) 2100).bind fun v18 =>
    (wr 2117 I17 (o0 + 13) 2100 (v18 + 1)).bind fun I19 =>
    some I19
theorem nm_X5_comes : yX5_comes.cls ≠ "java/lang/invoke/MethodHandle" ∧ yX5_comes.cls ≠ "java/lang/invoke/VarHandle" ∧ (parseMethodDescriptor yX5_comes.desc).map (fun d => d.parameters.length) = some 2 := by decide +kernel
set_option maxRecDepth 100000 in
set_option maxHeartbeats 4000000 in
theorem ct_X5_comes {E : Ev} {d : Nat} {z : Sh} {J : MJ} {I : MI} {o0 : Nat} {x1 : Int32} {x2 : Int32} {Iz : MI} (ho0 : oX5 z o0) (h : f_X5_comes o0 x1 x2 J I = some Iz) : Ct E (d + 1) yX5_comes cX5_comes 4 none 0 0 [.ref o0, .int x1, .int x2] z J I none z J Iz := by
  unfold f_X5_comes at h
  refine Ct.of (own := RX5) (ls := [(0, .ref o0), (1, .int x1), (2, .int x2)]) (by decide) rfl (Nat.le_of_ble_eq_true rfl) rfl ?_
  intro X hr0 hnm hX
  refine g_aload_n hX (pc := 0) (i := 0) dX5_comes_0 rfl 0 rfl ?_
  refine gf5_27 hX (pc := 1) ho0 fl_X5_48 dX5_comes_1 ?_
  refine g_sipush hX (pc := 4) (v := 330) dX5_comes_4 (by decide) ?_
  refine g_iload_n hX (pc := 7) (i := 1) dX5_comes_7 rfl 1 rfl ?_
  refine g_iadd hX (pc := 8) dX5_comes_8 ?_
  obtain ⟨v1, e_v1, h⟩ := bnd h
  refine g_ialoadE hX (pc := 9) (s5_27 ho0).1 (s5_27 ho0).2.1 (s5_27 ho0).2.2.1 e_v1 dX5_comes_9 ?_
  refine g_iconst hX (pc := 10) (v := 1) dX5_comes_10 (by decide) ?_
  obtain ⟨p8, hpj3, h⟩ := bnd h
  have Kj3 : ∀ qj3 : MI, qj3 = p8 → GW E X (QX E X 0 0 none z J Iz) 4 52 [(0, .ref o0), (1, .int x1), (2, .int x2)] [] z J qj3 0 0 := by
    intro qj3 hqj3
    subst hqj3
    refine g_aload_n hX (pc := 52) (i := 0) dX5_comes_52 rfl 0 rfl ?_
    refine gf5_27 hX (pc := 53) ho0 fl_X5_48 dX5_comes_53 ?_
    refine g_bipush hX (pc := 56) (v := 10) dX5_comes_56 (by decide) ?_
    refine g_bipush hX (pc := 58) (v := 10) dX5_comes_58 (by decide) ?_
    refine g_iload_n hX (pc := 60) (i := 1) dX5_comes_60 rfl 1 rfl ?_
    refine g_imul hX (pc := 61) dX5_comes_61 ?_
    refine g_iadd hX (pc := 62) dX5_comes_62 ?_
    refine g_iload_n hX (pc := 63) (i := 2) dX5_comes_63 rfl 2 rfl ?_
    refine g_iadd hX (pc := 64) dX5_comes_64 ?_
    refine g_dup2 hX (pc := 65) dX5_comes_65 rfl rfl ?_
    obtain ⟨v9, e_v9, h⟩ := bnd h
    refine g_ialoadE hX (pc := 66) (s5_27 ho0).1 (s5_27 ho0).2.1 (s5_27 ho0).2.2.1 e_v9 dX5_comes_66 ?_
    refine g_iconst hX (pc := 67) (v := 1) dX5_comes_67 (by decide) ?_
    refine g_iadd hX (pc := 68) dX5_comes_68 ?_
    obtain ⟨I10, e_I10, h⟩ := bnd h
    refine g_iastoreE hX (pc := 69) (s5_27 ho0).1 (s5_27 ho0).2.1 (s5_27 ho0).2.2.1 e_I10 dX5_comes_69 ?_
    refine g_aload_n hX (pc := 70) (i := 0) dX5_comes_70 rfl 0 rfl ?_
    refine g_bipush hX (pc := 71) (v := 10) dX5_comes_71 (by decide) ?_
    refine g_iload_n hX (pc := 73) (i := 1) dX5_comes_73 rfl 1 rfl ?_
    obtain ⟨r11, e_r11, h⟩ := bnd h
    refine g_callVi hX (pc := 74) (d := d + 0) hr0 [.int 10, .int x1] (c := 5) (ct_X5_sumOf (d := d + 0) ho0 e_r11) ho0.1.1 ho0.1.2 (by decide) rfl co_X5_sumOf ml_X5_240 im_X5_sumOf sl_X5_sumOf ini_X5 nm_X5_sumOf (by decide) ⟨Nat.le_refl _, Nat.le_refl _⟩ (Nat.le_refl _) (Nat.le_of_ble_eq_true rfl) rfl dX5_comes_74 ?_
    refine g_aload_n hX (pc := 77) (i := 0) dX5_comes_77 rfl 0 rfl ?_
    refine g_iload_n hX (pc := 78) (i := 1) dX5_comes_78 rfl 1 rfl ?_
    obtain ⟨r12, e_r12, h⟩ := bnd h
    refine g_callVi hX (pc := 79) (d := d + 0) hr0 [.int x1] (c := 5) (ct_X5_needOf (d := d + 0) ho0 e_r12) ho0.1.1 ho0.1.2 (by decide) rfl co_X5_needOf ml_X5_237 im_X5_needOf sl_X5_needOf ini_X5 nm_X5_needOf (by decide) ⟨Nat.le_refl _, Nat.le_refl _⟩ (Nat.le_refl _) (Nat.le_of_ble_eq_true rfl) rfl dX5_comes_79 ?_
    refine g_icmp_ge hX (pc := 82) dX5_comes_82 (tgt := 86) (by decide) (fun c13 => ?_) (fun c13 => ?_)
    · replace h := ifP c13 h
      obtain rfl := Option.some.inj h
      exact g_return hX (Nat.le_refl _) (Nat.le_refl _) dX5_comes_85
    · replace h := ifN c13 h
      refine g_aload_n hX (pc := 86) (i := 0) dX5_comes_86 rfl 0 rfl ?_
      refine g_iload_n hX (pc := 87) (i := 1) dX5_comes_87 rfl 1 rfl ?_
      obtain ⟨r14, e_r14, h⟩ := bnd h
      refine g_callVv hX (pc := 88) (d := d + 0) hr0 [.int x1] (c := 5) (ct_X5_freesHole (d := d + 0) ho0 e_r14) ho0.1.1 ho0.1.2 (by decide) rfl co_X5_freesHole ml_X5_297 im_X5_freesHole sl_X5_freesHole ini_X5 nm_X5_freesHole (by decide) ⟨Nat.le_refl _, Nat.le_refl _⟩ (Nat.le_refl _) (Nat.le_of_ble_eq_true rfl) rfl dX5_comes_88 ?_
      refine g_aload_n hX (pc := 91) (i := 0) dX5_comes_91 rfl 0 rfl ?_
      refine gf5_27 hX (pc := 92) ho0 fl_X5_48 dX5_comes_92 ?_
      refine g_sipush hX (pc := 95) (v := 330) dX5_comes_95 (by decide) ?_
      refine g_iload_n hX (pc := 98) (i := 1) dX5_comes_98 rfl 1 rfl ?_
      refine g_iadd hX (pc := 99) dX5_comes_99 ?_
      refine g_iconst hX (pc := 100) (v := 4) dX5_comes_100 (by decide) ?_
      obtain ⟨I15, e_I15, h⟩ := bnd h
      refine g_iastoreE hX (pc := 101) (s5_27 ho0).1 (s5_27 ho0).2.1 (s5_27 ho0).2.2.1 e_I15 dX5_comes_101 ?_
      refine g_aload_n hX (pc := 102) (i := 0) dX5_comes_102 rfl 0 rfl ?_
      refine gf5_27 hX (pc := 103) ho0 fl_X5_48 dX5_comes_103 ?_
      refine g_sipush hX (pc := 106) (v := 2101) dX5_comes_106 (by decide) ?_
      refine g_aload_n hX (pc := 109) (i := 0) dX5_comes_109 rfl 0 rfl ?_
      refine gf5_27 hX (pc := 110) ho0 fl_X5_48 dX5_comes_110 ?_
      refine g_sipush hX (pc := 113) (v := 2100) dX5_comes_113 (by decide) ?_
      obtain ⟨v16, e_v16, h⟩ := bnd h
      refine g_ialoadE hX (pc := 116) (s5_27 ho0).1 (s5_27 ho0).2.1 (s5_27 ho0).2.2.1 e_v16 dX5_comes_116 ?_
      refine g_iadd hX (pc := 117) dX5_comes_117 ?_
      refine g_iload_n hX (pc := 118) (i := 1) dX5_comes_118 rfl 1 rfl ?_
      obtain ⟨I17, e_I17, h⟩ := bnd h
      refine g_iastoreE hX (pc := 119) (s5_27 ho0).1 (s5_27 ho0).2.1 (s5_27 ho0).2.2.1 e_I17 dX5_comes_119 ?_
      refine g_aload_n hX (pc := 120) (i := 0) dX5_comes_120 rfl 0 rfl ?_
      refine gf5_27 hX (pc := 121) ho0 fl_X5_48 dX5_comes_121 ?_
      refine g_sipush hX (pc := 124) (v := 2100) dX5_comes_124 (by decide) ?_
      refine g_dup2 hX (pc := 127) dX5_comes_127 rfl rfl ?_
      obtain ⟨v18, e_v18, h⟩ := bnd h
      refine g_ialoadE hX (pc := 128) (s5_27 ho0).1 (s5_27 ho0).2.1 (s5_27 ho0).2.2.1 e_v18 dX5_comes_128 ?_
      refine g_iconst hX (pc := 129) (v := 1) dX5_comes_129 (by decide) ?_
      refine g_iadd hX (pc := 130) dX5_comes_130 ?_
      obtain ⟨I19, e_I19, h⟩ := bnd h
      refine g_iastoreE hX (pc := 131) (s5_27 ho0).1 (s5_27 ho0).2.1 (s5_27 ho0).2.2.1 e_I19 dX5_comes_131 ?_
      obtain rfl := Option.some.inj h
      exact g_return hX (Nat.le_refl _) (Nat.le_refl _) dX5_comes_132
  replace h := hpj3
  clear hpj3
  refine g_icmp_ne hX (pc := 11) dX5_comes_11 (tgt := 52) (by decide) (fun c2 => ?_) (fun c2 => ?_)
  · replace h := ifP c2 h
    refine g_aload_n hX (pc := 14) (i := 0) dX5_comes_14 rfl 0 rfl ?_
    obtain ⟨r4, e_r4, h⟩ := bnd h
    refine g_callVi hX (pc := 15) (d := d + 0) hr0 [] (c := 5) (ct_X5_freeHole (d := d + 0) ho0 e_r4) ho0.1.1 ho0.1.2 (by decide) rfl co_X5_freeHole ml_X5_294 im_X5_freeHole sl_X5_freeHole ini_X5 nm_X5_freeHole (by decide) ⟨Nat.le_refl _, Nat.le_refl _⟩ (Nat.le_refl _) (Nat.le_of_ble_eq_true rfl) rfl dX5_comes_15 ?_
    refine g_istore_n hX (pc := 18) (i := 3) (ls' := [(0, .ref o0), (1, .int x1), (2, .int x2), (3, .int r4)]) [1, 2, 3, 0] dX5_comes_18 rfl (by decide) rfl ?_
    refine g_aload_n hX (pc := 19) (i := 0) dX5_comes_19 rfl 0 rfl ?_
    refine gf5_27 hX (pc := 20) ho0 fl_X5_48 dX5_comes_20 ?_
    refine g_sipush hX (pc := 23) (v := 362) dX5_comes_23 (by decide) ?_
    refine g_iload_n hX (pc := 26) (i := 3) dX5_comes_26 rfl 3 rfl ?_
    refine g_iadd hX (pc := 27) dX5_comes_27 ?_
    refine g_iload_n hX (pc := 28) (i := 1) dX5_comes_28 rfl 1 rfl ?_
    obtain ⟨I5, e_I5, h⟩ := bnd h
    refine g_iastoreE hX (pc := 29) (s5_27 ho0).1 (s5_27 ho0).2.1 (s5_27 ho0).2.2.1 e_I5 dX5_comes_29 ?_
    refine g_aload_n hX (pc := 30) (i := 0) dX5_comes_30 rfl 0 rfl ?_
    refine gf5_27 hX (pc := 31) ho0 fl_X5_48 dX5_comes_31 ?_
    refine g_sipush hX (pc := 34) (v := 346) dX5_comes_34 (by decide) ?_
    refine g_iload_n hX (pc := 37) (i := 1) dX5_comes_37 rfl 1 rfl ?_
    refine g_iadd hX (pc := 38) dX5_comes_38 ?_
    refine g_iload_n hX (pc := 39) (i := 3) dX5_comes_39 rfl 3 rfl ?_
    obtain ⟨I6, e_I6, h⟩ := bnd h
    refine g_iastoreE hX (pc := 40) (s5_27 ho0).1 (s5_27 ho0).2.1 (s5_27 ho0).2.2.1 e_I6 dX5_comes_40 ?_
    refine g_aload_n hX (pc := 41) (i := 0) dX5_comes_41 rfl 0 rfl ?_
    refine gf5_27 hX (pc := 42) ho0 fl_X5_48 dX5_comes_42 ?_
    refine g_sipush hX (pc := 45) (v := 330) dX5_comes_45 (by decide) ?_
    refine g_iload_n hX (pc := 48) (i := 1) dX5_comes_48 rfl 1 rfl ?_
    refine g_iadd hX (pc := 49) dX5_comes_49 ?_
    refine g_iconst hX (pc := 50) (v := 2) dX5_comes_50 (by decide) ?_
    obtain ⟨I7, e_I7, h⟩ := bnd h
    refine g_iastoreE hX (pc := 51) (s5_27 ho0).1 (s5_27 ho0).2.1 (s5_27 ho0).2.2.1 e_I7 dX5_comes_51 ?_
    refine g_sub (ls' := [(0, .ref o0), (1, .int x1), (2, .int x2)]) [0, 1, 2] rfl ?_
    exact Kj3 I7 (Option.some.inj h)
  · replace h := ifN c2 h
    exact Kj3 I (Option.some.inj h)
noncomputable def b_X5_drops_3 (o0 : Nat) (x1 : Int32) (x2 : Int32) (s : Int32 × MI) : Option ((Int32 × MI) ⊕ (Int32 × MI)) :=
  (rd 2117 (s.2 (o0 + 13)) x2).bind fun v4 =>
  if (s.1 + 1) < v4 then
    (rd 2117 (s.2 (o0 + 13)) ((x1 + s.1) + 1)).bind fun v6 =>
    (wr 2117 s.2 (o0 + 13) (x1 + s.1) v6).bind fun I7 =>
    some (.inl ((s.1 + 1, I7)))
  else
    some (.inr ((s.1, s.2)))
noncomputable def f_X5_drops (o0 : Nat) (x1 : Int32) (x2 : Int32) (x3 : Int32) (J : MJ) (I : MI) : Option (MI) :=
  (lp (b_X5_drops_3 o0 x1 x2) ((x3, I))).bind fun p8 =>
  (rd 2117 (p8.2 (o0 + 13)) x2).bind fun v9 =>
  (wr 2117 p8.2 (o0 + 13) x2 (v9 - 1)).bind fun I10 =>
  some I10
theorem nm_X5_drops : yX5_drops.cls ≠ "java/lang/invoke/MethodHandle" ∧ yX5_drops.cls ≠ "java/lang/invoke/VarHandle" ∧ (parseMethodDescriptor yX5_drops.desc).map (fun d => d.parameters.length) = some 3 := by decide +kernel
set_option maxRecDepth 100000 in
set_option maxHeartbeats 4000000 in
theorem ct_X5_drops {E : Ev} {d : Nat} {z : Sh} {J : MJ} {I : MI} {o0 : Nat} {x1 : Int32} {x2 : Int32} {x3 : Int32} {Iz : MI} (ho0 : oX5 z o0) (h : f_X5_drops o0 x1 x2 x3 J I = some Iz) : Ct E (d + 0) yX5_drops cX5_drops 5 none 0 0 [.ref o0, .int x1, .int x2, .int x3] z J I none z J Iz := by
  unfold f_X5_drops at h
  refine Ct.of (own := RX5) (ls := [(0, .ref o0), (1, .int x1), (2, .int x2), (3, .int x3)]) (by decide) rfl (Nat.le_of_ble_eq_true rfl) rfl ?_
  intro X hr0 hnm hX
  refine g_iload_n hX (pc := 0) (i := 3) dX5_drops_0 rfl 3 rfl ?_
  refine g_istore hX (pc := 1) (ls' := [(0, .ref o0), (1, .int x1), (2, .int x2), (3, .int x3), (4, .int x3)]) [1, 2, 3, 4, 0] dX5_drops_1 (by decide) rfl ?_
  obtain ⟨p8, hpl3, h⟩ := bnd h
  have Kl3 : ∀ ql3 : Int32 × MI, ql3 = p8 → GW E X (QX E X 0 0 none z J Iz) 5 42 [(0, .ref o0), (1, .int x1), (2, .int x2), (3, .int x3), (4, .int ql3.1)] [] z J ql3.2 0 0 := by
    intro ql3 hql3
    subst hql3
    refine g_aload_n hX (pc := 42) (i := 0) dX5_drops_42 rfl 0 rfl ?_
    refine gf5_27 hX (pc := 43) ho0 fl_X5_48 dX5_drops_43 ?_
    refine g_iload_n hX (pc := 46) (i := 2) dX5_drops_46 rfl 2 rfl ?_
    refine g_dup2 hX (pc := 47) dX5_drops_47 rfl rfl ?_
    obtain ⟨v9, e_v9, h⟩ := bnd h
    refine g_ialoadE hX (pc := 48) (s5_27 ho0).1 (s5_27 ho0).2.1 (s5_27 ho0).2.2.1 e_v9 dX5_drops_48 ?_
    refine g_iconst hX (pc := 49) (v := 1) dX5_drops_49 (by decide) ?_
    refine g_isub hX (pc := 50) dX5_drops_50 ?_
    obtain ⟨I10, e_I10, h⟩ := bnd h
    refine g_iastoreE hX (pc := 51) (s5_27 ho0).1 (s5_27 ho0).2.1 (s5_27 ho0).2.2.1 e_I10 dX5_drops_51 ?_
    obtain rfl := Option.some.inj h
    exact g_return hX (Nat.le_refl _) (Nat.le_refl _) dX5_drops_52
  obtain ⟨kl3, hkl3⟩ := lp_ex hpl3
  clear hpl3 h
  have Ll3 : ∀ k : Nat, ∀ (s1 : Int32) (I2 : MI), lpN k (b_X5_drops_3 o0 x1 x2) ((s1, I2)) = some p8 → GW E X (QX E X 0 0 none z J Iz) 5 3 [(0, .ref o0), (1, .int x1), (2, .int x2), (3, .int x3), (4, .int s1)] [] z J I2 0 0 := by
    intro k
    induction k with
    | zero => intro s1 I2 h; cases h
    | succ k ihl3 =>
      intro s1 I2 h
      obtain ⟨wl3, h, hwl3⟩ := lpN_s h
      unfold b_X5_drops_3 at h
      try dsimp only at h
      refine g_iload hX (pc := 3) dX5_drops_3 4 rfl ?_
      refine g_iconst hX (pc := 5) (v := 1) dX5_drops_5 (by decide) ?_
      refine g_iadd hX (pc := 6) dX5_drops_6 ?_
      refine g_aload_n hX (pc := 7) (i := 0) dX5_drops_7 rfl 0 rfl ?_
      refine gf5_27 hX (pc := 8) ho0 fl_X5_48 dX5_drops_8 ?_
      refine g_iload_n hX (pc := 11) (i := 2) dX5_drops_11 rfl 2 rfl ?_
      obtain ⟨v4, e_v4, h⟩ := bnd h
      refine g_ialoadE hX (pc := 12) (s5_27 ho0).1 (s5_27 ho0).2.1 (s5_27 ho0).2.2.1 e_v4 dX5_drops_12 ?_
      refine g_icmp_ge hX (pc := 13) dX5_drops_13 (tgt := 42) (by decide) (fun c5 => ?_) (fun c5 => ?_)
      · replace h := ifP c5 h
        refine g_aload_n hX (pc := 16) (i := 0) dX5_drops_16 rfl 0 rfl ?_
        refine gf5_27 hX (pc := 17) ho0 fl_X5_48 dX5_drops_17 ?_
        refine g_iload_n hX (pc := 20) (i := 1) dX5_drops_20 rfl 1 rfl ?_
        refine g_iload hX (pc := 21) dX5_drops_21 4 rfl ?_
        refine g_iadd hX (pc := 23) dX5_drops_23 ?_
        refine g_aload_n hX (pc := 24) (i := 0) dX5_drops_24 rfl 0 rfl ?_
        refine gf5_27 hX (pc := 25) ho0 fl_X5_48 dX5_drops_25 ?_
        refine g_iload_n hX (pc := 28) (i := 1) dX5_drops_28 rfl 1 rfl ?_
        refine g_iload hX (pc := 29) dX5_drops_29 4 rfl ?_
        refine g_iadd hX (pc := 31) dX5_drops_31 ?_
        refine g_iconst hX (pc := 32) (v := 1) dX5_drops_32 (by decide) ?_
        refine g_iadd hX (pc := 33) dX5_drops_33 ?_
        obtain ⟨v6, e_v6, h⟩ := bnd h
        refine g_ialoadE hX (pc := 34) (s5_27 ho0).1 (s5_27 ho0).2.1 (s5_27 ho0).2.2.1 e_v6 dX5_drops_34 ?_
        obtain ⟨I7, e_I7, h⟩ := bnd h
        refine g_iastoreE hX (pc := 35) (s5_27 ho0).1 (s5_27 ho0).2.1 (s5_27 ho0).2.2.1 e_I7 dX5_drops_35 ?_
        refine g_iinc hX (pc := 36) (i := 4) (v := s1 + 1) (ls' := [(0, .ref o0), (1, .int x1), (2, .int x2), (3, .int x3), (4, .int (s1 + 1))]) 4 [1, 2, 3, 4, 0] dX5_drops_36 rfl (by rfl) (by decide) rfl ?_
        refine g_goto hX (pc := 39) (tgt := 3) dX5_drops_39 (by decide) ?_
        obtain rfl := Option.some.inj h
        exact ihl3 (s1 + 1) I7 hwl3
      · replace h := ifN c5 h
        obtain rfl := Option.some.inj h
        exact Kl3 ((s1, I2)) hwl3
  exact Ll3 kl3 x3 I hkl3
noncomputable def b_X5_settles_2 (o0 : Nat) (J : MJ) (s : Int32 × MI) : Option ((Int32 × MI) ⊕ (Int32 × MI)) :=
  (rd 2117 (s.2 (o0 + 13)) 1235).bind fun v4 =>
  if s.1 < v4 then
    (rd 2117 (s.2 (o0 + 13)) (1236 + s.1)).bind fun v6 =>
    (f_X5_canCome o0 (v6 / 10) J s.2).bind fun r7 =>
    if r7 = 0 then
      some (.inl ((s.1 + 1, s.2)))
    else
      (f_X5_drops o0 1236 1235 s.1 J s.2).bind fun r9 =>
      (f_X5_comes o0 (v6 / 10) (v6 - v6 / 10 * 10) J r9).bind fun r10 =>
      some (.inl ((0, r10)))
  else
    some (.inr ((s.1, s.2)))
noncomputable def f_X5_settles (o0 : Nat) (J : MJ) (I : MI) : Option (MI) :=
  (lp (b_X5_settles_2 o0 J) ((0, I))).bind fun p11 =>
  some p11.2
theorem nm_X5_settles : yX5_settles.cls ≠ "java/lang/invoke/MethodHandle" ∧ yX5_settles.cls ≠ "java/lang/invoke/VarHandle" ∧ (parseMethodDescriptor yX5_settles.desc).map (fun d => d.parameters.length) = some 0 := by decide +kernel
set_option maxRecDepth 100000 in
set_option maxHeartbeats 4000000 in
theorem ct_X5_settles {E : Ev} {d : Nat} {z : Sh} {J : MJ} {I : MI} {o0 : Nat} {Iz : MI} (ho0 : oX5 z o0) (h : f_X5_settles o0 J I = some Iz) : Ct E (d + 2) yX5_settles cX5_settles 3 none 0 0 [.ref o0] z J I none z J Iz := by
  unfold f_X5_settles at h
  refine Ct.of (own := RX5) (ls := [(0, .ref o0)]) (by decide) rfl (Nat.le_of_ble_eq_true rfl) rfl ?_
  intro X hr0 hnm hX
  refine g_iconst hX (pc := 0) (v := 0) dX5_settles_0 (by decide) ?_
  refine g_istore_n hX (pc := 1) (i := 1) (ls' := [(0, .ref o0), (1, .int 0)]) [1, 0] dX5_settles_1 rfl (by decide) rfl ?_
  obtain ⟨p11, hpl3, h⟩ := bnd h
  have Kl3 : ∀ ql3 : Int32 × MI, ql3 = p11 → GW E X (QX E X 0 0 none z J Iz) 3 70 [(0, .ref o0), (1, .int ql3.1)] [] z J ql3.2 0 0 := by
    intro ql3 hql3
    subst hql3
    obtain rfl := Option.some.inj h
    exact g_return hX (Nat.le_refl _) (Nat.le_refl _) dX5_settles_70
  obtain ⟨kl3, hkl3⟩ := lp_ex hpl3
  clear hpl3 h
  have Ll3 : ∀ k : Nat, ∀ (s1 : Int32) (I2 : MI), lpN k (b_X5_settles_2 o0 J) ((s1, I2)) = some p11 → GW E X (QX E X 0 0 none z J Iz) 3 2 [(0, .ref o0), (1, .int s1)] [] z J I2 0 0 := by
    intro k
    induction k with
    | zero => intro s1 I2 h; cases h
    | succ k ihl3 =>
      intro s1 I2 h
      obtain ⟨wl3, h, hwl3⟩ := lpN_s h
      unfold b_X5_settles_2 at h
      try dsimp only at h
      refine g_iload_n hX (pc := 2) (i := 1) dX5_settles_2 rfl 1 rfl ?_
      refine g_aload_n hX (pc := 3) (i := 0) dX5_settles_3 rfl 0 rfl ?_
      refine gf5_27 hX (pc := 4) ho0 fl_X5_48 dX5_settles_4 ?_
      refine g_sipush hX (pc := 7) (v := 1235) dX5_settles_7 (by decide) ?_
      obtain ⟨v4, e_v4, h⟩ := bnd h
      refine g_ialoadE hX (pc := 10) (s5_27 ho0).1 (s5_27 ho0).2.1 (s5_27 ho0).2.2.1 e_v4 dX5_settles_10 ?_
      refine g_icmp_ge hX (pc := 11) dX5_settles_11 (tgt := 70) (by decide) (fun c5 => ?_) (fun c5 => ?_)
      · replace h := ifP c5 h
        refine g_aload_n hX (pc := 14) (i := 0) dX5_settles_14 rfl 0 rfl ?_
        refine gf5_27 hX (pc := 15) ho0 fl_X5_48 dX5_settles_15 ?_
        refine g_sipush hX (pc := 18) (v := 1236) dX5_settles_18 (by decide) ?_
        refine g_iload_n hX (pc := 21) (i := 1) dX5_settles_21 rfl 1 rfl ?_
        refine g_iadd hX (pc := 22) dX5_settles_22 ?_
        obtain ⟨v6, e_v6, h⟩ := bnd h
        refine g_ialoadE hX (pc := 23) (s5_27 ho0).1 (s5_27 ho0).2.1 (s5_27 ho0).2.2.1 e_v6 dX5_settles_23 ?_
        refine g_istore_n hX (pc := 24) (i := 2) (ls' := [(0, .ref o0), (1, .int s1), (2, .int v6)]) [1, 2, 0] dX5_settles_24 rfl (by decide) rfl ?_
        refine g_aload_n hX (pc := 25) (i := 0) dX5_settles_25 rfl 0 rfl ?_
        refine g_iload_n hX (pc := 26) (i := 2) dX5_settles_26 rfl 2 rfl ?_
        refine g_bipush hX (pc := 27) (v := 10) dX5_settles_27 (by decide) ?_
        refine g_idiv hX (pc := 29) dX5_settles_29 (by decide) ?_
        obtain ⟨r7, e_r7, h⟩ := bnd h
        refine g_callVi hX (pc := 30) (d := d + 1) hr0 [.int (v6 / 10)] (c := 5) (ct_X5_canCome (d := d + 0) ho0 e_r7) ho0.1.1 ho0.1.2 (by decide) rfl co_X5_canCome ml_X5_300 im_X5_canCome sl_X5_canCome ini_X5 nm_X5_canCome (by decide) ⟨Nat.le_refl _, Nat.le_refl _⟩ (Nat.le_refl _) (Nat.le_of_ble_eq_true rfl) rfl dX5_settles_30 ?_
        refine g_if_ne hX (pc := 33) dX5_settles_33 (tgt := 42) (by decide) (fun c8 => ?_) (fun c8 => ?_)
        · replace h := ifP c8 h
          refine g_iinc hX (pc := 36) (i := 1) (v := s1 + 1) (ls' := [(0, .ref o0), (1, .int (s1 + 1)), (2, .int v6)]) 1 [1, 0, 2] dX5_settles_36 rfl (by rfl) (by decide) rfl ?_
          refine g_goto hX (pc := 39) (tgt := 2) dX5_settles_39 (by decide) ?_
          refine g_sub (ls' := [(0, .ref o0), (1, .int (s1 + 1))]) [0, 1] rfl ?_
          obtain rfl := Option.some.inj h
          exact ihl3 (s1 + 1) I2 hwl3
        · replace h := ifN c8 h
          refine g_aload_n hX (pc := 42) (i := 0) dX5_settles_42 rfl 0 rfl ?_
          refine g_sipush hX (pc := 43) (v := 1236) dX5_settles_43 (by decide) ?_
          refine g_sipush hX (pc := 46) (v := 1235) dX5_settles_46 (by decide) ?_
          refine g_iload_n hX (pc := 49) (i := 1) dX5_settles_49 rfl 1 rfl ?_
          obtain ⟨r9, e_r9, h⟩ := bnd h
          refine g_callVv hX (pc := 50) (d := d + 1) hr0 [.int 1236, .int 1235, .int s1] (c := 5) (ct_X5_drops (d := d + 1) ho0 e_r9) ho0.1.1 ho0.1.2 (by decide) rfl co_X5_drops ml_X5_303 im_X5_drops sl_X5_drops ini_X5 nm_X5_drops (by decide) ⟨Nat.le_refl _, Nat.le_refl _⟩ (Nat.le_refl _) (Nat.le_of_ble_eq_true rfl) rfl dX5_settles_50 ?_
          refine g_aload_n hX (pc := 53) (i := 0) dX5_settles_53 rfl 0 rfl ?_
          refine g_iload_n hX (pc := 54) (i := 2) dX5_settles_54 rfl 2 rfl ?_
          refine g_bipush hX (pc := 55) (v := 10) dX5_settles_55 (by decide) ?_
          refine g_idiv hX (pc := 57) dX5_settles_57 (by decide) ?_
          refine g_iload_n hX (pc := 58) (i := 2) dX5_settles_58 rfl 2 rfl ?_
          refine g_bipush hX (pc := 59) (v := 10) dX5_settles_59 (by decide) ?_
          refine g_irem hX (pc := 61) dX5_settles_61 (by decide) ?_
          obtain ⟨r10, e_r10, h⟩ := bnd h
          refine g_callVv hX (pc := 62) (d := d + 1) hr0 [.int (v6 / 10), .int (v6 - v6 / 10 * 10)] (c := 5) (ct_X5_comes (d := d + 0) ho0 e_r10) ho0.1.1 ho0.1.2 (by decide) rfl co_X5_comes ml_X5_307 im_X5_comes sl_X5_comes ini_X5 nm_X5_comes (by decide) ⟨Nat.le_refl _, Nat.le_refl _⟩ (Nat.le_refl _) (Nat.le_of_ble_eq_true rfl) rfl dX5_settles_62 ?_
          refine g_iconst hX (pc := 65) (v := 0) dX5_settles_65 (by decide) ?_
          refine g_istore_n hX (pc := 66) (i := 1) (ls' := [(0, .ref o0), (1, .int 0), (2, .int v6)]) [1, 0, 2] dX5_settles_66 rfl (by decide) rfl ?_
          refine g_goto hX (pc := 67) (tgt := 2) dX5_settles_67 (by decide) ?_
          refine g_sub (ls' := [(0, .ref o0), (1, .int 0)]) [0, 1] rfl ?_
          obtain rfl := Option.some.inj h
          exact ihl3 0 r10 hwl3
      · replace h := ifN c5 h
        obtain rfl := Option.some.inj h
        exact Kl3 ((s1, I2)) hwl3
  exact Ll3 kl3 0 I hkl3
noncomputable def b_X5_goes_2 (o0 : Nat) (x1 : Int32) (J : MJ) (s : Int32 × MI) : Option ((Int32 × MI) ⊕ (Int32 × MI)) :=
  if s.1 < x1 then
    (rd 2117 (s.2 (o0 + 13)) 370).bind fun v5 =>
    if 0 < v5 then
      (rd 2117 (s.2 (o0 + 13)) 371).bind fun v7 =>
      (f_X5_drops o0 371 370 0 J s.2).bind fun r8 =>
      (f_X5_canCome o0 (v7 / 10) J r8).bind fun r9 =>
      (if r9 = 0 then
        (rd 2117 (r8 (o0 + 13)) 1235).bind fun v12 =>
        (wr 2117 r8 (o0 + 13) (1236 + v12) v7).bind fun I13 =>
        (rd 2117 (I13 (o0 + 13)) 1235).bind fun v14 =>
        (wr 2117 I13 (o0 + 13) 1235 (v14 + 1)).bind fun I15 =>
        some I15
      else
        (f_X5_comes o0 (v7 / 10) (v7 - v7 / 10 * 10) J r8).bind fun r16 =>
        (f_X5_settles o0 J r16).bind fun r17 =>
        some r17).bind fun (p18 : MI) =>
      some (.inl ((s.1 + 1, p18)))
    else
      some (.inr ((s.1, s.2)))
  else
    some (.inr ((s.1, s.2)))
noncomputable def f_X5_goes (o0 : Nat) (x1 : Int32) (J : MJ) (I : MI) : Option (Int32 × MI) :=
  (lp (b_X5_goes_2 o0 x1 J) ((0, I))).bind fun p19 =>
  some ((p19.1, p19.2))
theorem nm_X5_goes : yX5_goes.cls ≠ "java/lang/invoke/MethodHandle" ∧ yX5_goes.cls ≠ "java/lang/invoke/VarHandle" ∧ (parseMethodDescriptor yX5_goes.desc).map (fun d => d.parameters.length) = some 1 := by decide +kernel
set_option maxRecDepth 100000 in
set_option maxHeartbeats 4000000 in
theorem ct_X5_goes {E : Ev} {d : Nat} {z : Sh} {J : MJ} {I : MI} {o0 : Nat} {x1 : Int32} {rr : Int32} {Iz : MI} (ho0 : oX5 z o0) (h : f_X5_goes o0 x1 J I = some ((rr, Iz))) : Ct E (d + 3) yX5_goes cX5_goes 4 (some .int) 0 0 [.ref o0, .int x1] z J I (some (.int rr)) z J Iz := by
  unfold f_X5_goes at h
  refine Ct.of (own := RX5) (ls := [(0, .ref o0), (1, .int x1)]) (by decide) rfl (Nat.le_of_ble_eq_true rfl) rfl ?_
  intro X hr0 hnm hX
  refine g_iconst hX (pc := 0) (v := 0) dX5_goes_0 (by decide) ?_
  refine g_istore_n hX (pc := 1) (i := 2) (ls' := [(0, .ref o0), (1, .int x1), (2, .int 0)]) [1, 2, 0] dX5_goes_1 rfl (by decide) rfl ?_
  obtain ⟨p19, hpl3, h⟩ := bnd h
  have Kl3 : ∀ ql3 : Int32 × MI, ql3 = p19 → GW E X (QX E X 0 0 (some (.int rr)) z J Iz) 4 104 [(0, .ref o0), (1, .int x1), (2, .int ql3.1)] [] z J ql3.2 0 0 := by
    intro ql3 hql3
    subst hql3
    refine g_iload_n hX (pc := 104) (i := 2) dX5_goes_104 rfl 2 rfl ?_
    replace h := Option.some.inj h
    obtain ⟨rfl, rfl⟩ := Prod.mk.inj h
    exact g_ireturn hX (Nat.le_refl _) (Nat.le_refl _) dX5_goes_105
  obtain ⟨kl3, hkl3⟩ := lp_ex hpl3
  clear hpl3 h
  have Ll3 : ∀ k : Nat, ∀ (s1 : Int32) (I2 : MI), lpN k (b_X5_goes_2 o0 x1 J) ((s1, I2)) = some p19 → GW E X (QX E X 0 0 (some (.int rr)) z J Iz) 4 2 [(0, .ref o0), (1, .int x1), (2, .int s1)] [] z J I2 0 0 := by
    intro k
    induction k with
    | zero => intro s1 I2 h; cases h
    | succ k ihl3 =>
      intro s1 I2 h
      obtain ⟨wl3, h, hwl3⟩ := lpN_s h
      unfold b_X5_goes_2 at h
      try dsimp only at h
      refine g_iload_n hX (pc := 2) (i := 2) dX5_goes_2 rfl 2 rfl ?_
      refine g_iload_n hX (pc := 3) (i := 1) dX5_goes_3 rfl 1 rfl ?_
      refine g_icmp_ge hX (pc := 4) dX5_goes_4 (tgt := 104) (by decide) (fun c4 => ?_) (fun c4 => ?_)
      · replace h := ifP c4 h
        refine g_aload_n hX (pc := 7) (i := 0) dX5_goes_7 rfl 0 rfl ?_
        refine gf5_27 hX (pc := 8) ho0 fl_X5_48 dX5_goes_8 ?_
        refine g_sipush hX (pc := 11) (v := 370) dX5_goes_11 (by decide) ?_
        obtain ⟨v5, e_v5, h⟩ := bnd h
        refine g_ialoadE hX (pc := 14) (s5_27 ho0).1 (s5_27 ho0).2.1 (s5_27 ho0).2.2.1 e_v5 dX5_goes_14 ?_
        refine g_if_le hX (pc := 15) dX5_goes_15 (tgt := 104) (by decide) (fun c6 => ?_) (fun c6 => ?_)
        · replace h := ifP c6 h
          refine g_aload_n hX (pc := 18) (i := 0) dX5_goes_18 rfl 0 rfl ?_
          refine gf5_27 hX (pc := 19) ho0 fl_X5_48 dX5_goes_19 ?_
          refine g_sipush hX (pc := 22) (v := 371) dX5_goes_22 (by decide) ?_
          obtain ⟨v7, e_v7, h⟩ := bnd h
          refine g_ialoadE hX (pc := 25) (s5_27 ho0).1 (s5_27 ho0).2.1 (s5_27 ho0).2.2.1 e_v7 dX5_goes_25 ?_
          refine g_istore_n hX (pc := 26) (i := 3) (ls' := [(0, .ref o0), (1, .int x1), (2, .int s1), (3, .int v7)]) [1, 2, 3, 0] dX5_goes_26 rfl (by decide) rfl ?_
          refine g_aload_n hX (pc := 27) (i := 0) dX5_goes_27 rfl 0 rfl ?_
          refine g_sipush hX (pc := 28) (v := 371) dX5_goes_28 (by decide) ?_
          refine g_sipush hX (pc := 31) (v := 370) dX5_goes_31 (by decide) ?_
          refine g_iconst hX (pc := 34) (v := 0) dX5_goes_34 (by decide) ?_
          obtain ⟨r8, e_r8, h⟩ := bnd h
          refine g_callVv hX (pc := 35) (d := d + 2) hr0 [.int 371, .int 370, .int 0] (c := 5) (ct_X5_drops (d := d + 2) ho0 e_r8) ho0.1.1 ho0.1.2 (by decide) rfl co_X5_drops ml_X5_303 im_X5_drops sl_X5_drops ini_X5 nm_X5_drops (by decide) ⟨Nat.le_refl _, Nat.le_refl _⟩ (Nat.le_refl _) (Nat.le_of_ble_eq_true rfl) rfl dX5_goes_35 ?_
          refine g_iinc hX (pc := 38) (i := 2) (v := s1 + 1) (ls' := [(0, .ref o0), (1, .int x1), (2, .int (s1 + 1)), (3, .int v7)]) 2 [1, 2, 0, 3] dX5_goes_38 rfl (by rfl) (by decide) rfl ?_
          refine g_aload_n hX (pc := 41) (i := 0) dX5_goes_41 rfl 0 rfl ?_
          refine g_iload_n hX (pc := 42) (i := 3) dX5_goes_42 rfl 3 rfl ?_
          refine g_bipush hX (pc := 43) (v := 10) dX5_goes_43 (by decide) ?_
          refine g_idiv hX (pc := 45) dX5_goes_45 (by decide) ?_
          obtain ⟨r9, e_r9, h⟩ := bnd h
          refine g_callVi hX (pc := 46) (d := d + 2) hr0 [.int (v7 / 10)] (c := 5) (ct_X5_canCome (d := d + 1) ho0 e_r9) ho0.1.1 ho0.1.2 (by decide) rfl co_X5_canCome ml_X5_300 im_X5_canCome sl_X5_canCome ini_X5 nm_X5_canCome (by decide) ⟨Nat.le_refl _, Nat.le_refl _⟩ (Nat.le_refl _) (Nat.le_of_ble_eq_true rfl) rfl dX5_goes_46 ?_
          obtain ⟨p18, hpj11, h⟩ := bnd h
          have Kj11 : ∀ qj11 : MI, qj11 = p18 → GW E X (QX E X 0 0 (some (.int rr)) z J Iz) 4 101 [(0, .ref o0), (1, .int x1), (2, .int (s1 + 1)), (3, .int v7)] [] z J qj11 0 0 := by
            intro qj11 hqj11
            subst hqj11
            refine g_goto hX (pc := 101) (tgt := 2) dX5_goes_101 (by decide) ?_
            refine g_sub (ls' := [(0, .ref o0), (1, .int x1), (2, .int (s1 + 1))]) [0, 1, 2] rfl ?_
            obtain rfl := Option.some.inj h
            exact ihl3 (s1 + 1) qj11 hwl3
          replace h := hpj11
          clear hpj11
          refine g_if_eq hX (pc := 49) dX5_goes_49 (tgt := 71) (by decide) (fun c10 => ?_) (fun c10 => ?_)
          · replace h := ifP c10 h
            refine g_aload_n hX (pc := 71) (i := 0) dX5_goes_71 rfl 0 rfl ?_
            refine gf5_27 hX (pc := 72) ho0 fl_X5_48 dX5_goes_72 ?_
            refine g_sipush hX (pc := 75) (v := 1236) dX5_goes_75 (by decide) ?_
            refine g_aload_n hX (pc := 78) (i := 0) dX5_goes_78 rfl 0 rfl ?_
            refine gf5_27 hX (pc := 79) ho0 fl_X5_48 dX5_goes_79 ?_
            refine g_sipush hX (pc := 82) (v := 1235) dX5_goes_82 (by decide) ?_
            obtain ⟨v12, e_v12, h⟩ := bnd h
            refine g_ialoadE hX (pc := 85) (s5_27 ho0).1 (s5_27 ho0).2.1 (s5_27 ho0).2.2.1 e_v12 dX5_goes_85 ?_
            refine g_iadd hX (pc := 86) dX5_goes_86 ?_
            refine g_iload_n hX (pc := 87) (i := 3) dX5_goes_87 rfl 3 rfl ?_
            obtain ⟨I13, e_I13, h⟩ := bnd h
            refine g_iastoreE hX (pc := 88) (s5_27 ho0).1 (s5_27 ho0).2.1 (s5_27 ho0).2.2.1 e_I13 dX5_goes_88 ?_
            refine g_aload_n hX (pc := 89) (i := 0) dX5_goes_89 rfl 0 rfl ?_
            refine gf5_27 hX (pc := 90) ho0 fl_X5_48 dX5_goes_90 ?_
            refine g_sipush hX (pc := 93) (v := 1235) dX5_goes_93 (by decide) ?_
            refine g_dup2 hX (pc := 96) dX5_goes_96 rfl rfl ?_
            obtain ⟨v14, e_v14, h⟩ := bnd h
            refine g_ialoadE hX (pc := 97) (s5_27 ho0).1 (s5_27 ho0).2.1 (s5_27 ho0).2.2.1 e_v14 dX5_goes_97 ?_
            refine g_iconst hX (pc := 98) (v := 1) dX5_goes_98 (by decide) ?_
            refine g_iadd hX (pc := 99) dX5_goes_99 ?_
            obtain ⟨I15, e_I15, h⟩ := bnd h
            refine g_iastoreE hX (pc := 100) (s5_27 ho0).1 (s5_27 ho0).2.1 (s5_27 ho0).2.2.1 e_I15 dX5_goes_100 ?_
            exact Kj11 I15 (Option.some.inj h)
          · replace h := ifN c10 h
            refine g_aload_n hX (pc := 52) (i := 0) dX5_goes_52 rfl 0 rfl ?_
            refine g_iload_n hX (pc := 53) (i := 3) dX5_goes_53 rfl 3 rfl ?_
            refine g_bipush hX (pc := 54) (v := 10) dX5_goes_54 (by decide) ?_
            refine g_idiv hX (pc := 56) dX5_goes_56 (by decide) ?_
            refine g_iload_n hX (pc := 57) (i := 3) dX5_goes_57 rfl 3 rfl ?_
            refine g_bipush hX (pc := 58) (v := 10) dX5_goes_58 (by decide) ?_
            refine g_irem hX (pc := 60) dX5_goes_60 (by decide) ?_
            obtain ⟨r16, e_r16, h⟩ := bnd h
            refine g_callVv hX (pc := 61) (d := d + 2) hr0 [.int (v7 / 10), .int (v7 - v7 / 10 * 10)] (c := 5) (ct_X5_comes (d := d + 1) ho0 e_r16) ho0.1.1 ho0.1.2 (by decide) rfl co_X5_comes ml_X5_307 im_X5_comes sl_X5_comes ini_X5 nm_X5_comes (by decide) ⟨Nat.le_refl _, Nat.le_refl _⟩ (Nat.le_refl _) (Nat.le_of_ble_eq_true rfl) rfl dX5_goes_61 ?_
            refine g_aload_n hX (pc := 64) (i := 0) dX5_goes_64 rfl 0 rfl ?_
            obtain ⟨r17, e_r17, h⟩ := bnd h
            refine g_callVv hX (pc := 65) (d := d + 2) hr0 [] (c := 5) (ct_X5_settles (d := d + 0) ho0 e_r17) ho0.1.1 ho0.1.2 (by decide) rfl co_X5_settles ml_X5_310 im_X5_settles sl_X5_settles ini_X5 nm_X5_settles (by decide) ⟨Nat.le_refl _, Nat.le_refl _⟩ (Nat.le_refl _) (Nat.le_of_ble_eq_true rfl) rfl dX5_goes_65 ?_
            refine g_goto hX (pc := 68) (tgt := 101) dX5_goes_68 (by decide) ?_
            exact Kj11 r17 (Option.some.inj h)
        · replace h := ifN c6 h
          obtain rfl := Option.some.inj h
          exact Kl3 ((s1, I2)) hwl3
      · replace h := ifN c4 h
        obtain rfl := Option.some.inj h
        exact Kl3 ((s1, I2)) hwl3
  exact Ll3 kl3 0 I hkl3
noncomputable def f_X5_step (o0 : Nat) (x1 : Int32) (J : MJ) (I : MI) : Option (Int32 × MI) :=
  (wf I o0 0 0).bind fun I1 =>
  (f_X5_within x1.toInt64 1 200).bind fun r2 =>
  if r2 = 0 then
    some (((-1), I1))
  else
    (rd 2117 (I1 (o0 + 13)) 370).bind fun v4 =>
    if v4 = 0 then
      some (((-1), I1))
    else
      (f_X5_keeps o0 J I1).bind fun r6 =>
      (f_X5_goes o0 x1 J r6).bind fun r7 =>
      some ((r7.1, r7.2))
theorem nm_X5_step : yX5_step.cls ≠ "java/lang/invoke/MethodHandle" ∧ yX5_step.cls ≠ "java/lang/invoke/VarHandle" ∧ (parseMethodDescriptor yX5_step.desc).map (fun d => d.parameters.length) = some 1 := by decide +kernel
set_option maxRecDepth 100000 in
set_option maxHeartbeats 4000000 in
theorem ct_X5_step {E : Ev} {d : Nat} {z : Sh} {J : MJ} {I : MI} {o0 : Nat} {x1 : Int32} {rr : Int32} {Iz : MI} (ho0 : oX5 z o0) (h : f_X5_step o0 x1 J I = some ((rr, Iz))) : Ct E (d + 4) yX5_step cX5_step 2 (some .int) 0 0 [.ref o0, .int x1] z J I (some (.int rr)) z J Iz := by
  unfold f_X5_step at h
  refine Ct.of (own := RX5) (ls := [(0, .ref o0), (1, .int x1)]) (by decide) rfl (Nat.le_of_ble_eq_true rfl) rfl ?_
  intro X hr0 hnm hX
  refine g_aload_n hX (pc := 0) (i := 0) dX5_step_0 rfl 0 rfl ?_
  refine g_iconst hX (pc := 1) (v := 0) dX5_step_1 (by decide) ?_
  obtain ⟨I1, e_I1, h⟩ := bnd h
  refine pf5_0 hX (pc := 2) ho0 fl_X5_86 dX5_step_2 e_I1 ?_
  refine g_iload_n hX (pc := 5) (i := 1) dX5_step_5 rfl 1 rfl ?_
  refine g_i2l hX (pc := 6) dX5_step_6 ?_
  refine g_lconst hX (pc := 7) (v := 1) dX5_step_7 (by decide) ?_
  refine g_ldc2 hX (pc := 8) cst_X5_313 dX5_step_8 ?_
  obtain ⟨r2, e_r2, h⟩ := bnd h
  refine g_callSi hX (pc := 11) (d := d + 3) hr0 [.long x1.toInt64, .long 1, .long 200] (ct_X5_within (d := d + 3)  e_r2) co_X5_within ml_X5_123 sta_X5_within ini_X5 nm_X5_within (by decide) ⟨Nat.le_refl _, Nat.le_refl _⟩ (Nat.le_refl _) (Nat.le_of_ble_eq_true rfl) rfl dX5_step_11 ?_
  refine g_if_eq hX (pc := 14) dX5_step_14 (tgt := 28) (by decide) (fun c3 => ?_) (fun c3 => ?_)
  · replace h := ifP c3 h
    refine g_iconst hX (pc := 28) (v := (-1)) dX5_step_28 (by decide) ?_
    replace h := Option.some.inj h
    obtain ⟨rfl, rfl⟩ := Prod.mk.inj h
    exact g_ireturn hX (Nat.le_refl _) (Nat.le_refl _) dX5_step_29
  · replace h := ifN c3 h
    refine g_aload_n hX (pc := 17) (i := 0) dX5_step_17 rfl 0 rfl ?_
    refine gf5_27 hX (pc := 18) ho0 fl_X5_48 dX5_step_18 ?_
    refine g_sipush hX (pc := 21) (v := 370) dX5_step_21 (by decide) ?_
    obtain ⟨v4, e_v4, h⟩ := bnd h
    refine g_ialoadE hX (pc := 24) (s5_27 ho0).1 (s5_27 ho0).2.1 (s5_27 ho0).2.2.1 e_v4 dX5_step_24 ?_
    refine g_if_ne hX (pc := 25) dX5_step_25 (tgt := 30) (by decide) (fun c5 => ?_) (fun c5 => ?_)
    · replace h := ifP c5 h
      refine g_iconst hX (pc := 28) (v := (-1)) dX5_step_28 (by decide) ?_
      replace h := Option.some.inj h
      obtain ⟨rfl, rfl⟩ := Prod.mk.inj h
      exact g_ireturn hX (Nat.le_refl _) (Nat.le_refl _) dX5_step_29
    · replace h := ifN c5 h
      refine g_aload_n hX (pc := 30) (i := 0) dX5_step_30 rfl 0 rfl ?_
      obtain ⟨r6, e_r6, h⟩ := bnd h
      refine g_callVv hX (pc := 31) (d := d + 3) hr0 [] (c := 5) (ct_X5_keeps (d := d + 3) ho0 e_r6) ho0.1.1 ho0.1.2 (by decide) rfl co_X5_keeps ml_X5_284 im_X5_keeps sl_X5_keeps ini_X5 nm_X5_keeps (by decide) ⟨Nat.le_refl _, Nat.le_refl _⟩ (Nat.le_refl _) (Nat.le_of_ble_eq_true rfl) rfl dX5_step_31 ?_
      refine g_aload_n hX (pc := 34) (i := 0) dX5_step_34 rfl 0 rfl ?_
      refine g_iload_n hX (pc := 35) (i := 1) dX5_step_35 rfl 1 rfl ?_
      obtain ⟨r7, e_r7, h⟩ := bnd h
      refine g_callVi hX (pc := 36) (d := d + 3) hr0 [.int x1] (c := 5) (ct_X5_goes (d := d + 0) ho0 e_r7) ho0.1.1 ho0.1.2 (by decide) rfl co_X5_goes ml_X5_315 im_X5_goes sl_X5_goes ini_X5 nm_X5_goes (by decide) ⟨Nat.le_refl _, Nat.le_refl _⟩ (Nat.le_refl _) (Nat.le_of_ble_eq_true rfl) rfl dX5_step_36 ?_
      replace h := Option.some.inj h
      obtain ⟨rfl, rfl⟩ := Prod.mk.inj h
      exact g_ireturn hX (Nat.le_refl _) (Nat.le_refl _) dX5_step_39
noncomputable def b_X5_stock_91 (o0 : Nat) (x1 : Int32) (J : MJ) (s16 : Int32) (s : Int32 × MI) : Option ((Int32 × MI) ⊕ (Int32 × MI)) :=
  (rd 2117 (s.2 (o0 + 13)) x1).bind fun v23 =>
  if 0 < v23 then
    (rd 2117 (s.2 (o0 + 13)) ((170 + (10 * s16)) + x1)).bind fun v25 =>
    if 0 < v25 then
      (rd 2117 (s.2 (o0 + 13)) x1).bind fun v27 =>
      (wr 2117 s.2 (o0 + 13) x1 (v27 - 1)).bind fun I28 =>
      (rd 2117 (I28 (o0 + 13)) ((170 + (10 * s16)) + x1)).bind fun v29 =>
      (wr 2117 I28 (o0 + 13) ((170 + (10 * s16)) + x1) (v29 - 1)).bind fun I30 =>
      (f_X5_toBelt o0 s16 x1 J I30).bind fun r31 =>
      some (.inl ((s.1 + 1, r31)))
    else
      some (.inr ((s.1, s.2)))
  else
    some (.inr ((s.1, s.2)))
noncomputable def b_X5_stock_86 (o0 : Nat) (x1 : Int32) (J : MJ) (v13 : Int32) (s : Int32 × Int32 × MI) : Option ((Int32 × Int32 × MI) ⊕ (Int32 × Int32 × MI)) :=
  if s.2.1 < 0 then
    some (.inr ((s.1, s.2.1, s.2.2)))
  else
    (lp (b_X5_stock_91 o0 x1 J s.2.1) ((s.1, s.2.2))).bind fun p32 =>
    (f_X5_earliestBehind o0 (((1 : Int32) <<< (v13 &&& 31)) - 1) s.2.1 J p32.2).bind fun r33 =>
    some (.inl ((p32.1, r33, p32.2)))
noncomputable def f_X5_stock (o0 : Nat) (x1 : Int32) (x2 : Int32) (J : MJ) (I : MI) : Option (Int32 × MI) :=
  (wf I o0 0 0).bind fun I1 =>
  (f_X5_isItem o0 x1 J I1).bind fun r2 =>
  if r2 = 0 then
    some (((-1), I1))
  else
    (f_X5_within x2.toInt64 1 99).bind fun r4 =>
    if r4 = 0 then
      some (((-1), I1))
    else
      (f_X5_keeps o0 J I1).bind fun r6 =>
      (rd 2117 (r6 (o0 + 13)) x1).bind fun v7 =>
      (if 99 < (v7 + x2) then
        some 99
      else
        (rd 2117 (r6 (o0 + 13)) x1).bind fun v10 =>
        some (v10 + x2)).bind fun (p11 : Int32) =>
      (wr 2117 r6 (o0 + 13) x1 p11).bind fun I12 =>
      (rd 2 (I12 (o0 + 3)) 0).bind fun v13 =>
      (f_X5_earliestBehind o0 (((1 : Int32) <<< (v13 &&& 31)) - 1) ((-1)) J I12).bind fun r14 =>
      (lp (b_X5_stock_86 o0 x1 J v13) ((0, r14, I12))).bind fun p34 =>
      some ((p34.1, p34.2.2))
theorem nm_X5_stock : yX5_stock.cls ≠ "java/lang/invoke/MethodHandle" ∧ yX5_stock.cls ≠ "java/lang/invoke/VarHandle" ∧ (parseMethodDescriptor yX5_stock.desc).map (fun d => d.parameters.length) = some 2 := by decide +kernel
set_option maxRecDepth 100000 in
set_option maxHeartbeats 4000000 in
theorem ct_X5_stock {E : Ev} {d : Nat} {z : Sh} {J : MJ} {I : MI} {o0 : Nat} {x1 : Int32} {x2 : Int32} {rr : Int32} {Iz : MI} (ho0 : oX5 z o0) (h : f_X5_stock o0 x1 x2 J I = some ((rr, Iz))) : Ct E (d + 2) yX5_stock cX5_stock 6 (some .int) 0 0 [.ref o0, .int x1, .int x2] z J I (some (.int rr)) z J Iz := by
  unfold f_X5_stock at h
  refine Ct.of (own := RX5) (ls := [(0, .ref o0), (1, .int x1), (2, .int x2)]) (by decide) rfl (Nat.le_of_ble_eq_true rfl) rfl ?_
  intro X hr0 hnm hX
  refine g_aload_n hX (pc := 0) (i := 0) dX5_stock_0 rfl 0 rfl ?_
  refine g_iconst hX (pc := 1) (v := 0) dX5_stock_1 (by decide) ?_
  obtain ⟨I1, e_I1, h⟩ := bnd h
  refine pf5_0 hX (pc := 2) ho0 fl_X5_86 dX5_stock_2 e_I1 ?_
  refine g_aload_n hX (pc := 5) (i := 0) dX5_stock_5 rfl 0 rfl ?_
  refine g_iload_n hX (pc := 6) (i := 1) dX5_stock_6 rfl 1 rfl ?_
  obtain ⟨r2, e_r2, h⟩ := bnd h
  refine g_callVi hX (pc := 7) (d := d + 1) hr0 [.int x1] (c := 5) (ct_X5_isItem (d := d + 0) ho0 e_r2) ho0.1.1 ho0.1.2 (by decide) rfl co_X5_isItem ml_X5_225 im_X5_isItem sl_X5_isItem ini_X5 nm_X5_isItem (by decide) ⟨Nat.le_refl _, Nat.le_refl _⟩ (Nat.le_refl _) (Nat.le_of_ble_eq_true rfl) rfl dX5_stock_7 ?_
  refine g_if_eq hX (pc := 10) dX5_stock_10 (tgt := 25) (by decide) (fun c3 => ?_) (fun c3 => ?_)
  · replace h := ifP c3 h
    refine g_iconst hX (pc := 25) (v := (-1)) dX5_stock_25 (by decide) ?_
    replace h := Option.some.inj h
    obtain ⟨rfl, rfl⟩ := Prod.mk.inj h
    exact g_ireturn hX (Nat.le_refl _) (Nat.le_refl _) dX5_stock_26
  · replace h := ifN c3 h
    refine g_iload_n hX (pc := 13) (i := 2) dX5_stock_13 rfl 2 rfl ?_
    refine g_i2l hX (pc := 14) dX5_stock_14 ?_
    refine g_lconst hX (pc := 15) (v := 1) dX5_stock_15 (by decide) ?_
    refine g_ldc2 hX (pc := 16) cst_X5_318 dX5_stock_16 ?_
    obtain ⟨r4, e_r4, h⟩ := bnd h
    refine g_callSi hX (pc := 19) (d := d + 1) hr0 [.long x2.toInt64, .long 1, .long 99] (ct_X5_within (d := d + 1)  e_r4) co_X5_within ml_X5_123 sta_X5_within ini_X5 nm_X5_within (by decide) ⟨Nat.le_refl _, Nat.le_refl _⟩ (Nat.le_refl _) (Nat.le_of_ble_eq_true rfl) rfl dX5_stock_19 ?_
    refine g_if_ne hX (pc := 22) dX5_stock_22 (tgt := 27) (by decide) (fun c5 => ?_) (fun c5 => ?_)
    · replace h := ifP c5 h
      refine g_iconst hX (pc := 25) (v := (-1)) dX5_stock_25 (by decide) ?_
      replace h := Option.some.inj h
      obtain ⟨rfl, rfl⟩ := Prod.mk.inj h
      exact g_ireturn hX (Nat.le_refl _) (Nat.le_refl _) dX5_stock_26
    · replace h := ifN c5 h
      refine g_aload_n hX (pc := 27) (i := 0) dX5_stock_27 rfl 0 rfl ?_
      obtain ⟨r6, e_r6, h⟩ := bnd h
      refine g_callVv hX (pc := 28) (d := d + 1) hr0 [] (c := 5) (ct_X5_keeps (d := d + 1) ho0 e_r6) ho0.1.1 ho0.1.2 (by decide) rfl co_X5_keeps ml_X5_284 im_X5_keeps sl_X5_keeps ini_X5 nm_X5_keeps (by decide) ⟨Nat.le_refl _, Nat.le_refl _⟩ (Nat.le_refl _) (Nat.le_of_ble_eq_true rfl) rfl dX5_stock_28 ?_
      refine g_aload_n hX (pc := 31) (i := 0) dX5_stock_31 rfl 0 rfl ?_
      refine gf5_27 hX (pc := 32) ho0 fl_X5_48 dX5_stock_32 ?_
      refine g_iload_n hX (pc := 35) (i := 1) dX5_stock_35 rfl 1 rfl ?_
      refine g_aload_n hX (pc := 36) (i := 0) dX5_stock_36 rfl 0 rfl ?_
      refine gf5_27 hX (pc := 37) ho0 fl_X5_48 dX5_stock_37 ?_
      refine g_iload_n hX (pc := 40) (i := 1) dX5_stock_40 rfl 1 rfl ?_
      obtain ⟨v7, e_v7, h⟩ := bnd h
      refine g_ialoadE hX (pc := 41) (s5_27 ho0).1 (s5_27 ho0).2.1 (s5_27 ho0).2.2.1 e_v7 dX5_stock_41 ?_
      refine g_iload_n hX (pc := 42) (i := 2) dX5_stock_42 rfl 2 rfl ?_
      refine g_iadd hX (pc := 43) dX5_stock_43 ?_
      refine g_bipush hX (pc := 44) (v := 99) dX5_stock_44 (by decide) ?_
      obtain ⟨p11, hpj9, h⟩ := bnd h
      have Kj9 : ∀ qj9 : Int32, qj9 = p11 → GW E X (QX E X 0 0 (some (.int rr)) z J Iz) 6 62 [(0, .ref o0), (1, .int x1), (2, .int x2)] [.int qj9, .int x1, .ref (o0 + 13)] z J r6 0 0 := by
        intro qj9 hqj9
        subst hqj9
        obtain ⟨I12, e_I12, h⟩ := bnd h
        refine g_iastoreE hX (pc := 62) (s5_27 ho0).1 (s5_27 ho0).2.1 (s5_27 ho0).2.2.1 e_I12 dX5_stock_62 ?_
        refine g_iconst hX (pc := 63) (v := 0) dX5_stock_63 (by decide) ?_
        refine g_istore_n hX (pc := 64) (i := 3) (ls' := [(0, .ref o0), (1, .int x1), (2, .int x2), (3, .int 0)]) [1, 2, 3, 0] dX5_stock_64 rfl (by decide) rfl ?_
        refine g_iconst hX (pc := 65) (v := 1) dX5_stock_65 (by decide) ?_
        refine g_aload_n hX (pc := 66) (i := 0) dX5_stock_66 rfl 0 rfl ?_
        refine gf5_14 hX (pc := 67) ho0 fl_X5_17 dX5_stock_67 ?_
        refine g_iconst hX (pc := 70) (v := 0) dX5_stock_70 (by decide) ?_
        obtain ⟨v13, e_v13, h⟩ := bnd h
        refine g_ialoadE hX (pc := 71) (s5_14 ho0).1 (s5_14 ho0).2.1 (s5_14 ho0).2.2.1 e_v13 dX5_stock_71 ?_
        refine g_ishl hX (pc := 72) dX5_stock_72 ?_
        refine g_iconst hX (pc := 73) (v := 1) dX5_stock_73 (by decide) ?_
        refine g_isub hX (pc := 74) dX5_stock_74 ?_
        refine g_istore hX (pc := 75) (ls' := [(0, .ref o0), (1, .int x1), (2, .int x2), (3, .int 0), (4, .int (((1 : Int32) <<< (v13 &&& 31)) - 1))]) [1, 2, 3, 4, 0] dX5_stock_75 (by decide) rfl ?_
        refine g_aload_n hX (pc := 77) (i := 0) dX5_stock_77 rfl 0 rfl ?_
        refine g_iload hX (pc := 78) dX5_stock_78 4 rfl ?_
        refine g_iconst hX (pc := 80) (v := (-1)) dX5_stock_80 (by decide) ?_
        obtain ⟨r14, e_r14, h⟩ := bnd h
        refine g_callVi hX (pc := 81) (d := d + 1) hr0 [.int (((1 : Int32) <<< (v13 &&& 31)) - 1), .int ((-1))] (c := 5) (ct_X5_earliestBehind (d := d + 0) ho0 e_r14) ho0.1.1 ho0.1.2 (by decide) rfl co_X5_earliestBehind ml_X5_287 im_X5_earliestBehind sl_X5_earliestBehind ini_X5 nm_X5_earliestBehind (by decide) ⟨Nat.le_refl _, Nat.le_refl _⟩ (Nat.le_refl _) (Nat.le_of_ble_eq_true rfl) rfl dX5_stock_81 ?_
        refine g_istore hX (pc := 84) (ls' := [(0, .ref o0), (1, .int x1), (2, .int x2), (3, .int 0), (4, .int (((1 : Int32) <<< (v13 &&& 31)) - 1)), (5, .int r14)]) [1, 2, 3, 4, 5, 0] dX5_stock_84 (by decide) rfl ?_
        obtain ⟨p34, hpl18, h⟩ := bnd h
        have Kl18 : ∀ ql18 : Int32 × Int32 × MI, ql18 = p34 → GW E X (QX E X 0 0 (some (.int rr)) z J Iz) 6 175 [(0, .ref o0), (1, .int x1), (2, .int x2), (3, .int ql18.1), (4, .int (((1 : Int32) <<< (v13 &&& 31)) - 1)), (5, .int ql18.2.1)] [] z J ql18.2.2 0 0 := by
          intro ql18 hql18
          subst hql18
          refine g_iload_n hX (pc := 175) (i := 3) dX5_stock_175 rfl 3 rfl ?_
          replace h := Option.some.inj h
          obtain ⟨rfl, rfl⟩ := Prod.mk.inj h
          exact g_ireturn hX (Nat.le_refl _) (Nat.le_refl _) dX5_stock_176
        obtain ⟨kl18, hkl18⟩ := lp_ex hpl18
        clear hpl18 h
        have Ll18 : ∀ k : Nat, ∀ (s15 : Int32) (s16 : Int32) (I17 : MI), lpN k (b_X5_stock_86 o0 x1 J v13) ((s15, s16, I17)) = some p34 → GW E X (QX E X 0 0 (some (.int rr)) z J Iz) 6 86 [(0, .ref o0), (1, .int x1), (2, .int x2), (3, .int s15), (4, .int (((1 : Int32) <<< (v13 &&& 31)) - 1)), (5, .int s16)] [] z J I17 0 0 := by
          intro k
          induction k with
          | zero => intro s15 s16 I17 h; cases h
          | succ k ihl18 =>
            intro s15 s16 I17 h
            obtain ⟨wl18, h, hwl18⟩ := lpN_s h
            unfold b_X5_stock_86 at h
            try dsimp only at h
            refine g_iload hX (pc := 86) dX5_stock_86 5 rfl ?_
            refine g_if_lt hX (pc := 88) dX5_stock_88 (tgt := 175) (by decide) (fun c19 => ?_) (fun c19 => ?_)
            · replace h := ifP c19 h
              obtain rfl := Option.some.inj h
              exact Kl18 ((s15, s16, I17)) hwl18
            · replace h := ifN c19 h
              obtain ⟨p32, hpl22, h⟩ := bnd h
              have Kl22 : ∀ ql22 : Int32 × MI, ql22 = p32 → GW E X (QX E X 0 0 (some (.int rr)) z J Iz) 6 162 [(0, .ref o0), (1, .int x1), (2, .int x2), (3, .int ql22.1), (4, .int (((1 : Int32) <<< (v13 &&& 31)) - 1)), (5, .int s16)] [] z J ql22.2 0 0 := by
                intro ql22 hql22
                subst hql22
                refine g_aload_n hX (pc := 162) (i := 0) dX5_stock_162 rfl 0 rfl ?_
                refine g_iload hX (pc := 163) dX5_stock_163 4 rfl ?_
                refine g_iload hX (pc := 165) dX5_stock_165 5 rfl ?_
                obtain ⟨r33, e_r33, h⟩ := bnd h
                refine g_callVi hX (pc := 167) (d := d + 1) hr0 [.int (((1 : Int32) <<< (v13 &&& 31)) - 1), .int s16] (c := 5) (ct_X5_earliestBehind (d := d + 0) ho0 e_r33) ho0.1.1 ho0.1.2 (by decide) rfl co_X5_earliestBehind ml_X5_287 im_X5_earliestBehind sl_X5_earliestBehind ini_X5 nm_X5_earliestBehind (by decide) ⟨Nat.le_refl _, Nat.le_refl _⟩ (Nat.le_refl _) (Nat.le_of_ble_eq_true rfl) rfl dX5_stock_167 ?_
                refine g_istore hX (pc := 170) (ls' := [(0, .ref o0), (1, .int x1), (2, .int x2), (3, .int ql22.1), (4, .int (((1 : Int32) <<< (v13 &&& 31)) - 1)), (5, .int r33)]) [1, 2, 3, 4, 5, 0] dX5_stock_170 (by decide) rfl ?_
                refine g_goto hX (pc := 172) (tgt := 86) dX5_stock_172 (by decide) ?_
                obtain rfl := Option.some.inj h
                exact ihl18 ql22.1 r33 ql22.2 hwl18
              obtain ⟨kl22, hkl22⟩ := lp_ex hpl22
              clear hpl22 h
              have Ll22 : ∀ k : Nat, ∀ (s20 : Int32) (I21 : MI), lpN k (b_X5_stock_91 o0 x1 J s16) ((s20, I21)) = some p32 → GW E X (QX E X 0 0 (some (.int rr)) z J Iz) 6 91 [(0, .ref o0), (1, .int x1), (2, .int x2), (3, .int s20), (4, .int (((1 : Int32) <<< (v13 &&& 31)) - 1)), (5, .int s16)] [] z J I21 0 0 := by
                intro k
                induction k with
                | zero => intro s20 I21 h; cases h
                | succ k ihl22 =>
                  intro s20 I21 h
                  obtain ⟨wl22, h, hwl22⟩ := lpN_s h
                  unfold b_X5_stock_91 at h
                  try dsimp only at h
                  refine g_aload_n hX (pc := 91) (i := 0) dX5_stock_91 rfl 0 rfl ?_
                  refine gf5_27 hX (pc := 92) ho0 fl_X5_48 dX5_stock_92 ?_
                  refine g_iload_n hX (pc := 95) (i := 1) dX5_stock_95 rfl 1 rfl ?_
                  obtain ⟨v23, e_v23, h⟩ := bnd h
                  refine g_ialoadE hX (pc := 96) (s5_27 ho0).1 (s5_27 ho0).2.1 (s5_27 ho0).2.2.1 e_v23 dX5_stock_96 ?_
                  refine g_if_le hX (pc := 97) dX5_stock_97 (tgt := 162) (by decide) (fun c24 => ?_) (fun c24 => ?_)
                  · replace h := ifP c24 h
                    refine g_aload_n hX (pc := 100) (i := 0) dX5_stock_100 rfl 0 rfl ?_
                    refine gf5_27 hX (pc := 101) ho0 fl_X5_48 dX5_stock_101 ?_
                    refine g_sipush hX (pc := 104) (v := 170) dX5_stock_104 (by decide) ?_
                    refine g_bipush hX (pc := 107) (v := 10) dX5_stock_107 (by decide) ?_
                    refine g_iload hX (pc := 109) dX5_stock_109 5 rfl ?_
                    refine g_imul hX (pc := 111) dX5_stock_111 ?_
                    refine g_iadd hX (pc := 112) dX5_stock_112 ?_
                    refine g_iload_n hX (pc := 113) (i := 1) dX5_stock_113 rfl 1 rfl ?_
                    refine g_iadd hX (pc := 114) dX5_stock_114 ?_
                    obtain ⟨v25, e_v25, h⟩ := bnd h
                    refine g_ialoadE hX (pc := 115) (s5_27 ho0).1 (s5_27 ho0).2.1 (s5_27 ho0).2.2.1 e_v25 dX5_stock_115 ?_
                    refine g_if_le hX (pc := 116) dX5_stock_116 (tgt := 162) (by decide) (fun c26 => ?_) (fun c26 => ?_)
                    · replace h := ifP c26 h
                      refine g_aload_n hX (pc := 119) (i := 0) dX5_stock_119 rfl 0 rfl ?_
                      refine gf5_27 hX (pc := 120) ho0 fl_X5_48 dX5_stock_120 ?_
                      refine g_iload_n hX (pc := 123) (i := 1) dX5_stock_123 rfl 1 rfl ?_
                      refine g_dup2 hX (pc := 124) dX5_stock_124 rfl rfl ?_
                      obtain ⟨v27, e_v27, h⟩ := bnd h
                      refine g_ialoadE hX (pc := 125) (s5_27 ho0).1 (s5_27 ho0).2.1 (s5_27 ho0).2.2.1 e_v27 dX5_stock_125 ?_
                      refine g_iconst hX (pc := 126) (v := 1) dX5_stock_126 (by decide) ?_
                      refine g_isub hX (pc := 127) dX5_stock_127 ?_
                      obtain ⟨I28, e_I28, h⟩ := bnd h
                      refine g_iastoreE hX (pc := 128) (s5_27 ho0).1 (s5_27 ho0).2.1 (s5_27 ho0).2.2.1 e_I28 dX5_stock_128 ?_
                      refine g_aload_n hX (pc := 129) (i := 0) dX5_stock_129 rfl 0 rfl ?_
                      refine gf5_27 hX (pc := 130) ho0 fl_X5_48 dX5_stock_130 ?_
                      refine g_sipush hX (pc := 133) (v := 170) dX5_stock_133 (by decide) ?_
                      refine g_bipush hX (pc := 136) (v := 10) dX5_stock_136 (by decide) ?_
                      refine g_iload hX (pc := 138) dX5_stock_138 5 rfl ?_
                      refine g_imul hX (pc := 140) dX5_stock_140 ?_
                      refine g_iadd hX (pc := 141) dX5_stock_141 ?_
                      refine g_iload_n hX (pc := 142) (i := 1) dX5_stock_142 rfl 1 rfl ?_
                      refine g_iadd hX (pc := 143) dX5_stock_143 ?_
                      refine g_dup2 hX (pc := 144) dX5_stock_144 rfl rfl ?_
                      obtain ⟨v29, e_v29, h⟩ := bnd h
                      refine g_ialoadE hX (pc := 145) (s5_27 ho0).1 (s5_27 ho0).2.1 (s5_27 ho0).2.2.1 e_v29 dX5_stock_145 ?_
                      refine g_iconst hX (pc := 146) (v := 1) dX5_stock_146 (by decide) ?_
                      refine g_isub hX (pc := 147) dX5_stock_147 ?_
                      obtain ⟨I30, e_I30, h⟩ := bnd h
                      refine g_iastoreE hX (pc := 148) (s5_27 ho0).1 (s5_27 ho0).2.1 (s5_27 ho0).2.2.1 e_I30 dX5_stock_148 ?_
                      refine g_aload_n hX (pc := 149) (i := 0) dX5_stock_149 rfl 0 rfl ?_
                      refine g_iload hX (pc := 150) dX5_stock_150 5 rfl ?_
                      refine g_iload_n hX (pc := 152) (i := 1) dX5_stock_152 rfl 1 rfl ?_
                      obtain ⟨r31, e_r31, h⟩ := bnd h
                      refine g_callVv hX (pc := 153) (d := d + 1) hr0 [.int s16, .int x1] (c := 5) (ct_X5_toBelt (d := d + 1) ho0 e_r31) ho0.1.1 ho0.1.2 (by decide) rfl co_X5_toBelt ml_X5_290 im_X5_toBelt sl_X5_toBelt ini_X5 nm_X5_toBelt (by decide) ⟨Nat.le_refl _, Nat.le_refl _⟩ (Nat.le_refl _) (Nat.le_of_ble_eq_true rfl) rfl dX5_stock_153 ?_
                      refine g_iinc hX (pc := 156) (i := 3) (v := s20 + 1) (ls' := [(0, .ref o0), (1, .int x1), (2, .int x2), (3, .int (s20 + 1)), (4, .int (((1 : Int32) <<< (v13 &&& 31)) - 1)), (5, .int s16)]) 3 [1, 2, 3, 0, 4, 5] dX5_stock_156 rfl (by rfl) (by decide) rfl ?_
                      refine g_goto hX (pc := 159) (tgt := 91) dX5_stock_159 (by decide) ?_
                      obtain rfl := Option.some.inj h
                      exact ihl22 (s20 + 1) r31 hwl22
                    · replace h := ifN c26 h
                      obtain rfl := Option.some.inj h
                      exact Kl22 ((s20, I21)) hwl22
                  · replace h := ifN c24 h
                    obtain rfl := Option.some.inj h
                    exact Kl22 ((s20, I21)) hwl22
              exact Ll22 kl22 s15 I17 hkl22
        exact Ll18 kl18 0 r14 I12 hkl18
      replace h := hpj9
      clear hpj9
      refine g_icmp_le hX (pc := 46) dX5_stock_46 (tgt := 54) (by decide) (fun c8 => ?_) (fun c8 => ?_)
      · replace h := ifP c8 h
        refine g_bipush hX (pc := 49) (v := 99) dX5_stock_49 (by decide) ?_
        refine g_goto hX (pc := 51) (tgt := 62) dX5_stock_51 (by decide) ?_
        exact Kj9 99 (Option.some.inj h)
      · replace h := ifN c8 h
        refine g_aload_n hX (pc := 54) (i := 0) dX5_stock_54 rfl 0 rfl ?_
        refine gf5_27 hX (pc := 55) ho0 fl_X5_48 dX5_stock_55 ?_
        refine g_iload_n hX (pc := 58) (i := 1) dX5_stock_58 rfl 1 rfl ?_
        obtain ⟨v10, e_v10, h⟩ := bnd h
        refine g_ialoadE hX (pc := 59) (s5_27 ho0).1 (s5_27 ho0).2.1 (s5_27 ho0).2.2.1 e_v10 dX5_stock_59 ?_
        refine g_iload_n hX (pc := 60) (i := 2) dX5_stock_60 rfl 2 rfl ?_
        refine g_iadd hX (pc := 61) dX5_stock_61 ?_
        exact Kj9 (v10 + x2) (Option.some.inj h)
noncomputable def f_X5_by (o0 : Nat) (x1 : Int32) (J : MJ) (I : MI) : Option (Int32 × MI) :=
  (wf I o0 0 0).bind fun I1 =>
  (f_X5_isOrder o0 x1 J I1).bind fun r2 =>
  if r2 = 0 then
    some (((-1), I1))
  else
    (rd 2117 (I1 (o0 + 13)) (346 + x1)).bind fun v4 =>
    if v4 < 0 then
      some (((-1), I1))
    else
      (f_X5_keeps o0 J I1).bind fun r6 =>
      (rd 2117 (r6 (o0 + 13)) (346 + x1)).bind fun v7 =>
      (f_X5_freesHole o0 x1 J r6).bind fun r8 =>
      (wr 2117 r8 (o0 + 13) (330 + x1) 3).bind fun I9 =>
      (f_X5_settles o0 J I9).bind fun r10 =>
      some ((v7, r10))
theorem nm_X5_by : yX5_by.cls ≠ "java/lang/invoke/MethodHandle" ∧ yX5_by.cls ≠ "java/lang/invoke/VarHandle" ∧ (parseMethodDescriptor yX5_by.desc).map (fun d => d.parameters.length) = some 1 := by decide +kernel
set_option maxRecDepth 100000 in
set_option maxHeartbeats 4000000 in
theorem ct_X5_by {E : Ev} {d : Nat} {z : Sh} {J : MJ} {I : MI} {o0 : Nat} {x1 : Int32} {rr : Int32} {Iz : MI} (ho0 : oX5 z o0) (h : f_X5_by o0 x1 J I = some ((rr, Iz))) : Ct E (d + 3) yX5_by cX5_by 3 (some .int) 0 0 [.ref o0, .int x1] z J I (some (.int rr)) z J Iz := by
  unfold f_X5_by at h
  refine Ct.of (own := RX5) (ls := [(0, .ref o0), (1, .int x1)]) (by decide) rfl (Nat.le_of_ble_eq_true rfl) rfl ?_
  intro X hr0 hnm hX
  refine g_aload_n hX (pc := 0) (i := 0) dX5_by_0 rfl 0 rfl ?_
  refine g_iconst hX (pc := 1) (v := 0) dX5_by_1 (by decide) ?_
  obtain ⟨I1, e_I1, h⟩ := bnd h
  refine pf5_0 hX (pc := 2) ho0 fl_X5_86 dX5_by_2 e_I1 ?_
  refine g_aload_n hX (pc := 5) (i := 0) dX5_by_5 rfl 0 rfl ?_
  refine g_iload_n hX (pc := 6) (i := 1) dX5_by_6 rfl 1 rfl ?_
  obtain ⟨r2, e_r2, h⟩ := bnd h
  refine g_callVi hX (pc := 7) (d := d + 2) hr0 [.int x1] (c := 5) (ct_X5_isOrder (d := d + 1) ho0 e_r2) ho0.1.1 ho0.1.2 (by decide) rfl co_X5_isOrder ml_X5_232 im_X5_isOrder sl_X5_isOrder ini_X5 nm_X5_isOrder (by decide) ⟨Nat.le_refl _, Nat.le_refl _⟩ (Nat.le_refl _) (Nat.le_of_ble_eq_true rfl) rfl dX5_by_7 ?_
  refine g_if_eq hX (pc := 10) dX5_by_10 (tgt := 26) (by decide) (fun c3 => ?_) (fun c3 => ?_)
  · replace h := ifP c3 h
    refine g_iconst hX (pc := 26) (v := (-1)) dX5_by_26 (by decide) ?_
    replace h := Option.some.inj h
    obtain ⟨rfl, rfl⟩ := Prod.mk.inj h
    exact g_ireturn hX (Nat.le_refl _) (Nat.le_refl _) dX5_by_27
  · replace h := ifN c3 h
    refine g_aload_n hX (pc := 13) (i := 0) dX5_by_13 rfl 0 rfl ?_
    refine gf5_27 hX (pc := 14) ho0 fl_X5_48 dX5_by_14 ?_
    refine g_sipush hX (pc := 17) (v := 346) dX5_by_17 (by decide) ?_
    refine g_iload_n hX (pc := 20) (i := 1) dX5_by_20 rfl 1 rfl ?_
    refine g_iadd hX (pc := 21) dX5_by_21 ?_
    obtain ⟨v4, e_v4, h⟩ := bnd h
    refine g_ialoadE hX (pc := 22) (s5_27 ho0).1 (s5_27 ho0).2.1 (s5_27 ho0).2.2.1 e_v4 dX5_by_22 ?_
    refine g_if_ge hX (pc := 23) dX5_by_23 (tgt := 28) (by decide) (fun c5 => ?_) (fun c5 => ?_)
    · replace h := ifP c5 h
      refine g_iconst hX (pc := 26) (v := (-1)) dX5_by_26 (by decide) ?_
      replace h := Option.some.inj h
      obtain ⟨rfl, rfl⟩ := Prod.mk.inj h
      exact g_ireturn hX (Nat.le_refl _) (Nat.le_refl _) dX5_by_27
    · replace h := ifN c5 h
      refine g_aload_n hX (pc := 28) (i := 0) dX5_by_28 rfl 0 rfl ?_
      obtain ⟨r6, e_r6, h⟩ := bnd h
      refine g_callVv hX (pc := 29) (d := d + 2) hr0 [] (c := 5) (ct_X5_keeps (d := d + 2) ho0 e_r6) ho0.1.1 ho0.1.2 (by decide) rfl co_X5_keeps ml_X5_284 im_X5_keeps sl_X5_keeps ini_X5 nm_X5_keeps (by decide) ⟨Nat.le_refl _, Nat.le_refl _⟩ (Nat.le_refl _) (Nat.le_of_ble_eq_true rfl) rfl dX5_by_29 ?_
      refine g_aload_n hX (pc := 32) (i := 0) dX5_by_32 rfl 0 rfl ?_
      refine gf5_27 hX (pc := 33) ho0 fl_X5_48 dX5_by_33 ?_
      refine g_sipush hX (pc := 36) (v := 346) dX5_by_36 (by decide) ?_
      refine g_iload_n hX (pc := 39) (i := 1) dX5_by_39 rfl 1 rfl ?_
      refine g_iadd hX (pc := 40) dX5_by_40 ?_
      obtain ⟨v7, e_v7, h⟩ := bnd h
      refine g_ialoadE hX (pc := 41) (s5_27 ho0).1 (s5_27 ho0).2.1 (s5_27 ho0).2.2.1 e_v7 dX5_by_41 ?_
      refine g_istore_n hX (pc := 42) (i := 2) (ls' := [(0, .ref o0), (1, .int x1), (2, .int v7)]) [1, 2, 0] dX5_by_42 rfl (by decide) rfl ?_
      refine g_aload_n hX (pc := 43) (i := 0) dX5_by_43 rfl 0 rfl ?_
      refine g_iload_n hX (pc := 44) (i := 1) dX5_by_44 rfl 1 rfl ?_
      obtain ⟨r8, e_r8, h⟩ := bnd h
      refine g_callVv hX (pc := 45) (d := d + 2) hr0 [.int x1] (c := 5) (ct_X5_freesHole (d := d + 2) ho0 e_r8) ho0.1.1 ho0.1.2 (by decide) rfl co_X5_freesHole ml_X5_297 im_X5_freesHole sl_X5_freesHole ini_X5 nm_X5_freesHole (by decide) ⟨Nat.le_refl _, Nat.le_refl _⟩ (Nat.le_refl _) (Nat.le_of_ble_eq_true rfl) rfl dX5_by_45 ?_
      refine g_aload_n hX (pc := 48) (i := 0) dX5_by_48 rfl 0 rfl ?_
      refine gf5_27 hX (pc := 49) ho0 fl_X5_48 dX5_by_49 ?_
      refine g_sipush hX (pc := 52) (v := 330) dX5_by_52 (by decide) ?_
      refine g_iload_n hX (pc := 55) (i := 1) dX5_by_55 rfl 1 rfl ?_
      refine g_iadd hX (pc := 56) dX5_by_56 ?_
      refine g_iconst hX (pc := 57) (v := 3) dX5_by_57 (by decide) ?_
      obtain ⟨I9, e_I9, h⟩ := bnd h
      refine g_iastoreE hX (pc := 58) (s5_27 ho0).1 (s5_27 ho0).2.1 (s5_27 ho0).2.2.1 e_I9 dX5_by_58 ?_
      refine g_aload_n hX (pc := 59) (i := 0) dX5_by_59 rfl 0 rfl ?_
      obtain ⟨r10, e_r10, h⟩ := bnd h
      refine g_callVv hX (pc := 60) (d := d + 2) hr0 [] (c := 5) (ct_X5_settles (d := d + 0) ho0 e_r10) ho0.1.1 ho0.1.2 (by decide) rfl co_X5_settles ml_X5_310 im_X5_settles sl_X5_settles ini_X5 nm_X5_settles (by decide) ⟨Nat.le_refl _, Nat.le_refl _⟩ (Nat.le_refl _) (Nat.le_of_ble_eq_true rfl) rfl dX5_by_60 ?_
      refine g_iload_n hX (pc := 63) (i := 2) dX5_by_63 rfl 2 rfl ?_
      replace h := Option.some.inj h
      obtain ⟨rfl, rfl⟩ := Prod.mk.inj h
      exact g_ireturn hX (Nat.le_refl _) (Nat.le_refl _) dX5_by_64
