noncomputable def f_X4_hole (o0 t0 u0 : Nat) (x1 : Int32) (I : MI) : Option (Int32) :=
  if x1 < 0 then
    some ((-2))
  else
    if x1 < (I t0 1) then
      (rd 8 (I (o0 + 24 + 4)) x1).bind fun v3 =>
      some v3
    else
      some ((-2))
theorem nm_X4_hole : yX4_hole.cls ≠ "java/lang/invoke/MethodHandle" ∧ yX4_hole.cls ≠ "java/lang/invoke/VarHandle" ∧ (parseMethodDescriptor yX4_hole.desc).map (fun d => d.parameters.length) = some 1 := by decide +kernel
set_option maxRecDepth 100000 in
set_option maxHeartbeats 4000000 in
theorem ct_X4_hole {E : Ev} {d : Nat} {z : Sh} {J : MJ} {I : MI} {o0 t0 u0 : Nat} {x1 : Int32} {rr : Int32} (ho0 : oX4 z o0 t0 u0) (h : f_X4_hole o0 t0 u0 x1 I = some rr) : Ct E (d + 0) yX4_hole cX4_hole 2 (some .int) 0 0 [.ref o0, .int x1] z J I (some (.int rr)) z J I := by
  unfold f_X4_hole at h
  refine Ct.of (own := RX4) (ls := [(0, .ref o0), (1, .int x1)]) (by decide) rfl (Nat.le_of_ble_eq_true rfl) rfl ?_
  intro X hr0 hnm hX
  refine g_iload_n hX (pc := 0) (i := 1) dX4_hole_0 rfl 1 rfl ?_
  refine g_if_lt hX (pc := 1) dX4_hole_1 (tgt := 15) (by decide) (fun c1 => ?_) (fun c1 => ?_)
  · replace h := ifP c1 h
    refine g_bipush hX (pc := 15) (v := (-2)) dX4_hole_15 (by decide) ?_
    obtain rfl := Option.some.inj h
    exact g_ireturn hX (Nat.le_refl _) (Nat.le_refl _) dX4_hole_17
  · replace h := ifN c1 h
    refine g_iload_n hX (pc := 4) (i := 1) dX4_hole_4 rfl 1 rfl ?_
    refine g_aload_n hX (pc := 5) (i := 0) dX4_hole_5 rfl 0 rfl ?_
    refine gf4_3 hX (pc := 6) ho0 fl_X4_27 dX4_hole_6 ?_
    refine gf3_1 hX (pc := 9) (s4_3 ho0).1 fl_X4_209 dX4_hole_9 ?_
    refine g_icmp_lt hX (pc := 12) dX4_hole_12 (tgt := 18) (by decide) (fun c2 => ?_) (fun c2 => ?_)
    · replace h := ifP c2 h
      refine g_aload_n hX (pc := 18) (i := 0) dX4_hole_18 rfl 0 rfl ?_
      refine gf4_5 hX (pc := 19) ho0 fl_X4_37 dX4_hole_19 ?_
      refine gf0_3 hX (pc := 22) (s4_5 ho0).1 fl_X4_212 dX4_hole_22 ?_
      refine g_iload_n hX (pc := 25) (i := 1) dX4_hole_25 rfl 1 rfl ?_
      obtain ⟨v3, e_v3, h⟩ := bnd h
      refine g_ialoadE hX (pc := 26) (s0_3 (s4_5 ho0).1).1 (s0_3 (s4_5 ho0).1).2.1 (s0_3 (s4_5 ho0).1).2.2.1 e_v3 dX4_hole_26 ?_
      obtain rfl := Option.some.inj h
      exact g_ireturn hX (Nat.le_refl _) (Nat.le_refl _) dX4_hole_27
    · replace h := ifN c2 h
      refine g_bipush hX (pc := 15) (v := (-2)) dX4_hole_15 (by decide) ?_
      obtain rfl := Option.some.inj h
      exact g_ireturn hX (Nat.le_refl _) (Nat.le_refl _) dX4_hole_17
noncomputable def f_X4_whole (o0 t0 u0 : Nat) (x1 : Int32) (I : MI) : Option (Int32) :=
  if x1 = ((-1)) then
    some (I (o0 + 24) 7)
  else
    if x1 < 0 then
      some ((-2))
    else
      if x1 < (I (o0 + 24) 7) then
        (rd 16 (I (o0 + 24 + 7)) x1).bind fun v4 =>
        some v4
      else
        some ((-2))
theorem nm_X4_whole : yX4_whole.cls ≠ "java/lang/invoke/MethodHandle" ∧ yX4_whole.cls ≠ "java/lang/invoke/VarHandle" ∧ (parseMethodDescriptor yX4_whole.desc).map (fun d => d.parameters.length) = some 1 := by decide +kernel
set_option maxRecDepth 100000 in
set_option maxHeartbeats 4000000 in
theorem ct_X4_whole {E : Ev} {d : Nat} {z : Sh} {J : MJ} {I : MI} {o0 t0 u0 : Nat} {x1 : Int32} {rr : Int32} (ho0 : oX4 z o0 t0 u0) (h : f_X4_whole o0 t0 u0 x1 I = some rr) : Ct E (d + 0) yX4_whole cX4_whole 2 (some .int) 0 0 [.ref o0, .int x1] z J I (some (.int rr)) z J I := by
  unfold f_X4_whole at h
  refine Ct.of (own := RX4) (ls := [(0, .ref o0), (1, .int x1)]) (by decide) rfl (Nat.le_of_ble_eq_true rfl) rfl ?_
  intro X hr0 hnm hX
  refine g_iload_n hX (pc := 0) (i := 1) dX4_whole_0 rfl 1 rfl ?_
  refine g_iconst hX (pc := 1) (v := (-1)) dX4_whole_1 (by decide) ?_
  refine g_icmp_ne hX (pc := 2) dX4_whole_2 (tgt := 13) (by decide) (fun c1 => ?_) (fun c1 => ?_)
  · replace h := ifP c1 h
    refine g_aload_n hX (pc := 5) (i := 0) dX4_whole_5 rfl 0 rfl ?_
    refine gf4_5 hX (pc := 6) ho0 fl_X4_37 dX4_whole_6 ?_
    refine gf0_7 hX (pc := 9) (s4_5 ho0).1 fl_X4_215 dX4_whole_9 ?_
    obtain rfl := Option.some.inj h
    exact g_ireturn hX (Nat.le_refl _) (Nat.le_refl _) dX4_whole_12
  · replace h := ifN c1 h
    refine g_iload_n hX (pc := 13) (i := 1) dX4_whole_13 rfl 1 rfl ?_
    refine g_if_lt hX (pc := 14) dX4_whole_14 (tgt := 28) (by decide) (fun c2 => ?_) (fun c2 => ?_)
    · replace h := ifP c2 h
      refine g_bipush hX (pc := 28) (v := (-2)) dX4_whole_28 (by decide) ?_
      obtain rfl := Option.some.inj h
      exact g_ireturn hX (Nat.le_refl _) (Nat.le_refl _) dX4_whole_30
    · replace h := ifN c2 h
      refine g_iload_n hX (pc := 17) (i := 1) dX4_whole_17 rfl 1 rfl ?_
      refine g_aload_n hX (pc := 18) (i := 0) dX4_whole_18 rfl 0 rfl ?_
      refine gf4_5 hX (pc := 19) ho0 fl_X4_37 dX4_whole_19 ?_
      refine gf0_7 hX (pc := 22) (s4_5 ho0).1 fl_X4_215 dX4_whole_22 ?_
      refine g_icmp_lt hX (pc := 25) dX4_whole_25 (tgt := 31) (by decide) (fun c3 => ?_) (fun c3 => ?_)
      · replace h := ifP c3 h
        refine g_aload_n hX (pc := 31) (i := 0) dX4_whole_31 rfl 0 rfl ?_
        refine gf4_5 hX (pc := 32) ho0 fl_X4_37 dX4_whole_32 ?_
        refine gf0_6 hX (pc := 35) (s4_5 ho0).1 fl_X4_218 dX4_whole_35 ?_
        refine g_iload_n hX (pc := 38) (i := 1) dX4_whole_38 rfl 1 rfl ?_
        obtain ⟨v4, e_v4, h⟩ := bnd h
        refine g_ialoadE hX (pc := 39) (s0_6 (s4_5 ho0).1).1 (s0_6 (s4_5 ho0).1).2.1 (s0_6 (s4_5 ho0).1).2.2.1 e_v4 dX4_whole_39 ?_
        obtain rfl := Option.some.inj h
        exact g_ireturn hX (Nat.le_refl _) (Nat.le_refl _) dX4_whole_40
      · replace h := ifN c3 h
        refine g_bipush hX (pc := 28) (v := (-2)) dX4_whole_28 (by decide) ?_
        obtain rfl := Option.some.inj h
        exact g_ireturn hX (Nat.le_refl _) (Nat.le_refl _) dX4_whole_30
noncomputable def b_X4_putOnTape_3 (o0 : Nat) (x1 : Int32) (s : Int32 × MI) : Option ((Int32 × MI) ⊕ (Int32 × MI)) :=
  if s.1 < 0 then
    some (.inr ((s.1, s.2)))
  else
    (if (s.2 o0 1) < 600 then
      (wr 600 s.2 (o0 + 1) (s.2 o0 1) (((x1 >>> (s.1 &&& 31)).toInt8.toInt32).toInt8.toInt32)).bind fun I7 =>
      (wf I7 o0 1 ((I7 o0 1) + 1)).bind fun I8 =>
      some I8
    else
      some s.2).bind fun (p9 : MI) =>
    some (.inl ((s.1 + (-8), p9)))
noncomputable def f_X4_putOnTape (o0 t0 u0 : Nat) (x1 : Int32) (I : MI) : Option (MI) :=
  (lp (b_X4_putOnTape_3 o0 x1) ((24, I))).bind fun p10 =>
  some p10.2
theorem nm_X4_putOnTape : yX4_putOnTape.cls ≠ "java/lang/invoke/MethodHandle" ∧ yX4_putOnTape.cls ≠ "java/lang/invoke/VarHandle" ∧ (parseMethodDescriptor yX4_putOnTape.desc).map (fun d => d.parameters.length) = some 1 := by decide +kernel
set_option maxRecDepth 100000 in
set_option maxHeartbeats 4000000 in
theorem ct_X4_putOnTape {E : Ev} {d : Nat} {z : Sh} {J : MJ} {I : MI} {o0 t0 u0 : Nat} {x1 : Int32} {Iz : MI} (ho0 : oX4 z o0 t0 u0) (h : f_X4_putOnTape o0 t0 u0 x1 I = some Iz) : Ct E (d + 0) yX4_putOnTape cX4_putOnTape 3 none 0 0 [.ref o0, .int x1] z J I none z J Iz := by
  unfold f_X4_putOnTape at h
  refine Ct.of (own := RX4) (ls := [(0, .ref o0), (1, .int x1)]) (by decide) rfl (Nat.le_of_ble_eq_true rfl) rfl ?_
  intro X hr0 hnm hX
  refine g_bipush hX (pc := 0) (v := 24) dX4_putOnTape_0 (by decide) ?_
  refine g_istore_n hX (pc := 2) (i := 2) (ls' := [(0, .ref o0), (1, .int x1), (2, .int 24)]) [1, 2, 0] dX4_putOnTape_2 rfl (by decide) rfl ?_
  obtain ⟨p10, hpl3, h⟩ := bnd h
  have Kl3 : ∀ ql3 : Int32 × MI, ql3 = p10 → GW E X (QX E X 0 0 none z J Iz) 3 46 [(0, .ref o0), (1, .int x1), (2, .int ql3.1)] [] z J ql3.2 0 0 := by
    intro ql3 hql3
    subst hql3
    obtain rfl := Option.some.inj h
    exact g_return hX (Nat.le_refl _) (Nat.le_refl _) dX4_putOnTape_46
  obtain ⟨kl3, hkl3⟩ := lp_ex hpl3
  clear hpl3 h
  have Ll3 : ∀ k : Nat, ∀ (s1 : Int32) (I2 : MI), lpN k (b_X4_putOnTape_3 o0 x1) ((s1, I2)) = some p10 → GW E X (QX E X 0 0 none z J Iz) 3 3 [(0, .ref o0), (1, .int x1), (2, .int s1)] [] z J I2 0 0 := by
    intro k
    induction k with
    | zero => intro s1 I2 h; cases h
    | succ k ihl3 =>
      intro s1 I2 h
      obtain ⟨wl3, h, hwl3⟩ := lpN_s h
      unfold b_X4_putOnTape_3 at h
      try dsimp only at h
      refine g_iload_n hX (pc := 3) (i := 2) dX4_putOnTape_3 rfl 2 rfl ?_
      refine g_if_lt hX (pc := 4) dX4_putOnTape_4 (tgt := 46) (by decide) (fun c4 => ?_) (fun c4 => ?_)
      · replace h := ifP c4 h
        obtain rfl := Option.some.inj h
        exact Kl3 ((s1, I2)) hwl3
      · replace h := ifN c4 h
        refine g_aload_n hX (pc := 7) (i := 0) dX4_putOnTape_7 rfl 0 rfl ?_
        refine gf4_1 hX (pc := 8) ho0 fl_X4_13 dX4_putOnTape_8 ?_
        refine g_sipush hX (pc := 11) (v := 600) dX4_putOnTape_11 (by decide) ?_
        obtain ⟨p9, hpj6, h⟩ := bnd h
        have Kj6 : ∀ qj6 : MI, qj6 = p9 → GW E X (QX E X 0 0 none z J Iz) 3 40 [(0, .ref o0), (1, .int x1), (2, .int s1)] [] z J qj6 0 0 := by
          intro qj6 hqj6
          subst hqj6
          refine g_iinc hX (pc := 40) (i := 2) (v := s1 + (-8)) (ls' := [(0, .ref o0), (1, .int x1), (2, .int (s1 + (-8)))]) 2 [1, 2, 0] dX4_putOnTape_40 rfl (by rfl) (by decide) rfl ?_
          refine g_goto hX (pc := 43) (tgt := 3) dX4_putOnTape_43 (by decide) ?_
          obtain rfl := Option.some.inj h
          exact ihl3 (s1 + (-8)) qj6 hwl3
        replace h := hpj6
        clear hpj6
        refine g_icmp_ge hX (pc := 14) dX4_putOnTape_14 (tgt := 40) (by decide) (fun c5 => ?_) (fun c5 => ?_)
        · replace h := ifP c5 h
          refine g_aload_n hX (pc := 17) (i := 0) dX4_putOnTape_17 rfl 0 rfl ?_
          refine gf4_0 hX (pc := 18) ho0 fl_X4_9 dX4_putOnTape_18 ?_
          refine g_aload_n hX (pc := 21) (i := 0) dX4_putOnTape_21 rfl 0 rfl ?_
          refine gf4_1 hX (pc := 22) ho0 fl_X4_13 dX4_putOnTape_22 ?_
          refine g_iload_n hX (pc := 25) (i := 1) dX4_putOnTape_25 rfl 1 rfl ?_
          refine g_iload_n hX (pc := 26) (i := 2) dX4_putOnTape_26 rfl 2 rfl ?_
          refine g_ishr hX (pc := 27) dX4_putOnTape_27 ?_
          refine g_i2b hX (pc := 28) dX4_putOnTape_28 ?_
          obtain ⟨I7, e_I7, h⟩ := bnd h
          refine g_bastoreE hX (pc := 29) (s4_0 ho0).1 (s4_0 ho0).2.1 (s4_0 ho0).2.2.1 e_I7 dX4_putOnTape_29 ?_
          refine g_aload_n hX (pc := 30) (i := 0) dX4_putOnTape_30 rfl 0 rfl ?_
          refine g_dup hX (pc := 31) dX4_putOnTape_31 rfl ?_
          refine gf4_1 hX (pc := 32) ho0 fl_X4_13 dX4_putOnTape_32 ?_
          refine g_iconst hX (pc := 35) (v := 1) dX4_putOnTape_35 (by decide) ?_
          refine g_iadd hX (pc := 36) dX4_putOnTape_36 ?_
          obtain ⟨I8, e_I8, h⟩ := bnd h
          refine pf4_1 hX (pc := 37) ho0 fl_X4_13 dX4_putOnTape_37 e_I8 ?_
          exact Kj6 I8 (Option.some.inj h)
        · replace h := ifN c5 h
          exact Kj6 I2 (Option.some.inj h)
  exact Ll3 kl3 24 I hkl3
noncomputable def f_X4_isInt (x0 : Int64)  : Option (Int32) :=
  (if x0 < ((-2147483648)) then
    some 0
  else
    if 2147483647 < x0 then
      some 0
    else
      some 1).bind fun (p4 : Int32) =>
  (gb p4).bind fun b5 =>
  some p4
theorem nm_X4_isInt : yX4_isInt.cls ≠ "java/lang/invoke/MethodHandle" ∧ yX4_isInt.cls ≠ "java/lang/invoke/VarHandle" ∧ (parseMethodDescriptor yX4_isInt.desc).map (fun d => d.parameters.length) = some 1 := by decide +kernel
set_option maxRecDepth 100000 in
set_option maxHeartbeats 4000000 in
theorem ct_X4_isInt {E : Ev} {d : Nat} {z : Sh} {J : MJ} {I : MI} {x0 : Int64} {rr : Int32}  (h : f_X4_isInt x0 = some rr) : Ct E (d + 0) yX4_isInt cX4_isInt 2 (some .boolean) 0 0 [.long x0] z J I (some (.int rr)) z J I := by
  unfold f_X4_isInt at h
  refine Ct.of (own := RX4) (ls := [(0, .long x0)]) (by decide) rfl (Nat.le_of_ble_eq_true rfl) rfl ?_
  intro X hr0 hnm hX
  refine g_lload_n hX (pc := 0) (i := 0) dX4_isInt_0 rfl 0 rfl ?_
  refine g_ldc2 hX (pc := 1) cst_X4_277 dX4_isInt_1 ?_
  obtain ⟨p4, hpj2, h⟩ := bnd h
  have Kj2 : ∀ qj2 : Int32, qj2 = p4 → GW E X (QX E X 0 0 (some (.int rr)) z J I) 2 21 [(0, .long x0)] [.int qj2] z J I 0 0 := by
    intro qj2 hqj2
    subst hqj2
    obtain ⟨b5, e_b5, h⟩ := bnd h
    obtain rfl := Option.some.inj h
    exact g_zreturn hX (gb_some e_b5).1 (Nat.le_refl _) (Nat.le_refl _) dX4_isInt_21
  replace h := hpj2
  clear hpj2
  refine g_lcmp_lt hX (pc := 4) dX4_isInt_4 dX4_isInt_5 (tgt := 20) (by decide) (fun c1 => ?_) (fun c1 => ?_)
  · replace h := ifP c1 h
    refine g_iconst hX (pc := 20) (v := 0) dX4_isInt_20 (by decide) ?_
    exact Kj2 0 (Option.some.inj h)
  · replace h := ifN c1 h
    refine g_lload_n hX (pc := 8) (i := 0) dX4_isInt_8 rfl 0 rfl ?_
    refine g_ldc2 hX (pc := 9) cst_X4_279 dX4_isInt_9 ?_
    refine g_lcmp_gt hX (pc := 12) dX4_isInt_12 dX4_isInt_13 (tgt := 20) (by decide) (fun c3 => ?_) (fun c3 => ?_)
    · replace h := ifP c3 h
      refine g_iconst hX (pc := 20) (v := 0) dX4_isInt_20 (by decide) ?_
      exact Kj2 0 (Option.some.inj h)
    · replace h := ifN c3 h
      refine g_iconst hX (pc := 16) (v := 1) dX4_isInt_16 (by decide) ?_
      refine g_goto hX (pc := 17) (tgt := 21) dX4_isInt_17 (by decide) ?_
      exact Kj2 1 (Option.some.inj h)
noncomputable def f_X4_hasBit (x0 : Int32) (x1 : Int32)  : Option (Int32) :=
  (if ((x0 >>> (x1 &&& 31)) &&& 1) = 0 then
    some 0
  else
    some 1).bind fun (p3 : Int32) =>
  (gb p3).bind fun b4 =>
  some p3
theorem nm_X4_hasBit : yX4_hasBit.cls ≠ "java/lang/invoke/MethodHandle" ∧ yX4_hasBit.cls ≠ "java/lang/invoke/VarHandle" ∧ (parseMethodDescriptor yX4_hasBit.desc).map (fun d => d.parameters.length) = some 2 := by decide +kernel
set_option maxRecDepth 100000 in
set_option maxHeartbeats 4000000 in
theorem ct_X4_hasBit {E : Ev} {d : Nat} {z : Sh} {J : MJ} {I : MI} {x0 : Int32} {x1 : Int32} {rr : Int32}  (h : f_X4_hasBit x0 x1 = some rr) : Ct E (d + 0) yX4_hasBit cX4_hasBit 2 (some .boolean) 0 0 [.int x0, .int x1] z J I (some (.int rr)) z J I := by
  unfold f_X4_hasBit at h
  refine Ct.of (own := RX4) (ls := [(0, .int x0), (1, .int x1)]) (by decide) rfl (Nat.le_of_ble_eq_true rfl) rfl ?_
  intro X hr0 hnm hX
  refine g_iload_n hX (pc := 0) (i := 0) dX4_hasBit_0 rfl 0 rfl ?_
  refine g_iload_n hX (pc := 1) (i := 1) dX4_hasBit_1 rfl 1 rfl ?_
  refine g_ishr hX (pc := 2) dX4_hasBit_2 ?_
  refine g_iconst hX (pc := 3) (v := 1) dX4_hasBit_3 (by decide) ?_
  refine g_iand hX (pc := 4) dX4_hasBit_4 ?_
  obtain ⟨p3, hpj2, h⟩ := bnd h
  have Kj2 : ∀ qj2 : Int32, qj2 = p3 → GW E X (QX E X 0 0 (some (.int rr)) z J I) 2 13 [(0, .int x0), (1, .int x1)] [.int qj2] z J I 0 0 := by
    intro qj2 hqj2
    subst hqj2
    obtain ⟨b4, e_b4, h⟩ := bnd h
    obtain rfl := Option.some.inj h
    exact g_zreturn hX (gb_some e_b4).1 (Nat.le_refl _) (Nat.le_refl _) dX4_hasBit_13
  replace h := hpj2
  clear hpj2
  refine g_if_eq hX (pc := 5) dX4_hasBit_5 (tgt := 12) (by decide) (fun c1 => ?_) (fun c1 => ?_)
  · replace h := ifP c1 h
    refine g_iconst hX (pc := 12) (v := 0) dX4_hasBit_12 (by decide) ?_
    exact Kj2 0 (Option.some.inj h)
  · replace h := ifN c1 h
    refine g_iconst hX (pc := 8) (v := 1) dX4_hasBit_8 (by decide) ?_
    refine g_goto hX (pc := 9) (tgt := 13) dX4_hasBit_9 (by decide) ?_
    exact Kj2 1 (Option.some.inj h)
noncomputable def f_X4_cell (x0 : Int32) (x1 : Int32)  : Option (Int32) :=
  some ((x0 * 10) + x1)
theorem nm_X4_cell : yX4_cell.cls ≠ "java/lang/invoke/MethodHandle" ∧ yX4_cell.cls ≠ "java/lang/invoke/VarHandle" ∧ (parseMethodDescriptor yX4_cell.desc).map (fun d => d.parameters.length) = some 2 := by decide +kernel
set_option maxRecDepth 100000 in
set_option maxHeartbeats 4000000 in
theorem ct_X4_cell {E : Ev} {d : Nat} {z : Sh} {J : MJ} {I : MI} {x0 : Int32} {x1 : Int32} {rr : Int32}  (h : f_X4_cell x0 x1 = some rr) : Ct E (d + 0) yX4_cell cX4_cell 2 (some .int) 0 0 [.int x0, .int x1] z J I (some (.int rr)) z J I := by
  unfold f_X4_cell at h
  refine Ct.of (own := RX4) (ls := [(0, .int x0), (1, .int x1)]) (by decide) rfl (Nat.le_of_ble_eq_true rfl) rfl ?_
  intro X hr0 hnm hX
  refine g_iload_n hX (pc := 0) (i := 0) dX4_cell_0 rfl 0 rfl ?_
  refine g_bipush hX (pc := 1) (v := 10) dX4_cell_1 (by decide) ?_
  refine g_imul hX (pc := 3) dX4_cell_3 ?_
  refine g_iload_n hX (pc := 4) (i := 1) dX4_cell_4 rfl 1 rfl ?_
  refine g_iadd hX (pc := 5) dX4_cell_5 ?_
  obtain rfl := Option.some.inj h
  exact g_ireturn hX (Nat.le_refl _) (Nat.le_refl _) dX4_cell_6
noncomputable def f_X4_orderOfUnit (x0 : Int32)  : Option (Int32) :=
  some (x0 / 10)
theorem nm_X4_orderOfUnit : yX4_orderOfUnit.cls ≠ "java/lang/invoke/MethodHandle" ∧ yX4_orderOfUnit.cls ≠ "java/lang/invoke/VarHandle" ∧ (parseMethodDescriptor yX4_orderOfUnit.desc).map (fun d => d.parameters.length) = some 1 := by decide +kernel
set_option maxRecDepth 100000 in
set_option maxHeartbeats 4000000 in
theorem ct_X4_orderOfUnit {E : Ev} {d : Nat} {z : Sh} {J : MJ} {I : MI} {x0 : Int32} {rr : Int32}  (h : f_X4_orderOfUnit x0 = some rr) : Ct E (d + 0) yX4_orderOfUnit cX4_orderOfUnit 1 (some .int) 0 0 [.int x0] z J I (some (.int rr)) z J I := by
  unfold f_X4_orderOfUnit at h
  refine Ct.of (own := RX4) (ls := [(0, .int x0)]) (by decide) rfl (Nat.le_of_ble_eq_true rfl) rfl ?_
  intro X hr0 hnm hX
  refine g_iload_n hX (pc := 0) (i := 0) dX4_orderOfUnit_0 rfl 0 rfl ?_
  refine g_bipush hX (pc := 1) (v := 10) dX4_orderOfUnit_1 (by decide) ?_
  refine g_idiv hX (pc := 3) dX4_orderOfUnit_3 (by decide) ?_
  obtain rfl := Option.some.inj h
  exact g_ireturn hX (Nat.le_refl _) (Nat.le_refl _) dX4_orderOfUnit_4
noncomputable def f_X4_itemOfUnit (x0 : Int32)  : Option (Int32) :=
  some (x0 - x0 / 10 * 10)
theorem nm_X4_itemOfUnit : yX4_itemOfUnit.cls ≠ "java/lang/invoke/MethodHandle" ∧ yX4_itemOfUnit.cls ≠ "java/lang/invoke/VarHandle" ∧ (parseMethodDescriptor yX4_itemOfUnit.desc).map (fun d => d.parameters.length) = some 1 := by decide +kernel
set_option maxRecDepth 100000 in
set_option maxHeartbeats 4000000 in
theorem ct_X4_itemOfUnit {E : Ev} {d : Nat} {z : Sh} {J : MJ} {I : MI} {x0 : Int32} {rr : Int32}  (h : f_X4_itemOfUnit x0 = some rr) : Ct E (d + 0) yX4_itemOfUnit cX4_itemOfUnit 1 (some .int) 0 0 [.int x0] z J I (some (.int rr)) z J I := by
  unfold f_X4_itemOfUnit at h
  refine Ct.of (own := RX4) (ls := [(0, .int x0)]) (by decide) rfl (Nat.le_of_ble_eq_true rfl) rfl ?_
  intro X hr0 hnm hX
  refine g_iload_n hX (pc := 0) (i := 0) dX4_itemOfUnit_0 rfl 0 rfl ?_
  refine g_bipush hX (pc := 1) (v := 10) dX4_itemOfUnit_1 (by decide) ?_
  refine g_irem hX (pc := 3) dX4_itemOfUnit_3 (by decide) ?_
  obtain rfl := Option.some.inj h
  exact g_ireturn hX (Nat.le_refl _) (Nat.le_refl _) dX4_itemOfUnit_4
noncomputable def f_X4_partOfUnit (x0 : Int32) (x1 : Int32)  : Option (Int32) :=
  if x1 = 0 then
    (f_X4_orderOfUnit x0).bind fun r2 =>
    some r2
  else
    if x1 = 1 then
      (f_X4_itemOfUnit x0).bind fun r4 =>
      some r4
    else
      some ((-2))
theorem nm_X4_partOfUnit : yX4_partOfUnit.cls ≠ "java/lang/invoke/MethodHandle" ∧ yX4_partOfUnit.cls ≠ "java/lang/invoke/VarHandle" ∧ (parseMethodDescriptor yX4_partOfUnit.desc).map (fun d => d.parameters.length) = some 2 := by decide +kernel
set_option maxRecDepth 100000 in
set_option maxHeartbeats 4000000 in
theorem ct_X4_partOfUnit {E : Ev} {d : Nat} {z : Sh} {J : MJ} {I : MI} {x0 : Int32} {x1 : Int32} {rr : Int32}  (h : f_X4_partOfUnit x0 x1 = some rr) : Ct E (d + 1) yX4_partOfUnit cX4_partOfUnit 2 (some .int) 0 0 [.int x0, .int x1] z J I (some (.int rr)) z J I := by
  unfold f_X4_partOfUnit at h
  refine Ct.of (own := RX4) (ls := [(0, .int x0), (1, .int x1)]) (by decide) rfl (Nat.le_of_ble_eq_true rfl) rfl ?_
  intro X hr0 hnm hX
  refine g_iload_n hX (pc := 0) (i := 1) dX4_partOfUnit_0 rfl 1 rfl ?_
  by_cases c1 : x1 = 0
  · replace h := ifP c1 h
    refine g_lookup hX (pc := 1) (tgt := 28) (off := 27) dX4_partOfUnit_1 (by decide) (by rw [c1]; decide) (by decide) ?_
    refine g_iload_n hX (pc := 28) (i := 0) dX4_partOfUnit_28 rfl 0 rfl ?_
    obtain ⟨r2, e_r2, h⟩ := bnd h
    refine g_callSi hX (pc := 29) (d := d + 0) hr0 [.int x0] (ct_X4_orderOfUnit (d := d + 0)  e_r2) co_X4_orderOfUnit ml_X4_281 sta_X4_orderOfUnit ini_X4 nm_X4_orderOfUnit (by decide) ⟨Nat.le_refl _, Nat.le_refl _⟩ (Nat.le_refl _) (Nat.le_of_ble_eq_true rfl) rfl dX4_partOfUnit_29 ?_
    obtain rfl := Option.some.inj h
    exact g_ireturn hX (Nat.le_refl _) (Nat.le_refl _) dX4_partOfUnit_32
  · replace h := ifN c1 h
    by_cases c3 : x1 = 1
    · replace h := ifP c3 h
      refine g_lookup hX (pc := 1) (tgt := 33) (off := 32) dX4_partOfUnit_1 (by decide) (by rw [c3]; decide) (by decide) ?_
      refine g_iload_n hX (pc := 33) (i := 0) dX4_partOfUnit_33 rfl 0 rfl ?_
      obtain ⟨r4, e_r4, h⟩ := bnd h
      refine g_callSi hX (pc := 34) (d := d + 0) hr0 [.int x0] (ct_X4_itemOfUnit (d := d + 0)  e_r4) co_X4_itemOfUnit ml_X4_284 sta_X4_itemOfUnit ini_X4 nm_X4_itemOfUnit (by decide) ⟨Nat.le_refl _, Nat.le_refl _⟩ (Nat.le_refl _) (Nat.le_of_ble_eq_true rfl) rfl dX4_partOfUnit_34 ?_
      obtain rfl := Option.some.inj h
      exact g_ireturn hX (Nat.le_refl _) (Nat.le_refl _) dX4_partOfUnit_37
    · replace h := ifN c3 h
      refine g_lookup hX (pc := 1) (tgt := 38) (off := 37) dX4_partOfUnit_1 (by decide) (by show Op.lookupswitch.offset [(0, 27), (1, 32)] 37 _ = _; rw [lv_osw c1 (show (0 : Int32).toInt = 0 by decide), lv_osw c3 (show (1 : Int32).toInt = 1 by decide)]; rfl) (by decide) ?_
      refine g_bipush hX (pc := 38) (v := (-2)) dX4_partOfUnit_38 (by decide) ?_
      obtain rfl := Option.some.inj h
      exact g_ireturn hX (Nat.le_refl _) (Nat.le_refl _) dX4_partOfUnit_40
noncomputable def b_X4_sumOfOrder_4 (o0 : Nat) (n0 : Nat) (x1 : Int32) (I : MI) (s : Int32 × Int32) : Option ((Int32 × Int32) ⊕ (Int32 × Int32)) :=
  if s.2 < 10 then
    (f_X4_cell x1 s.2).bind fun r5 =>
    (rd n0 (I o0) r5).bind fun v6 =>
    some (.inl ((s.1 + v6, s.2 + 1)))
  else
    some (.inr ((s.1, s.2)))
noncomputable def f_X4_sumOfOrder (o0 n0 : Nat) (x1 : Int32) (I : MI) : Option (Int32) :=
  (lp (b_X4_sumOfOrder_4 o0 n0 x1 I) ((0, 0))).bind fun p7 =>
  some p7.1
theorem nm_X4_sumOfOrder : yX4_sumOfOrder.cls ≠ "java/lang/invoke/MethodHandle" ∧ yX4_sumOfOrder.cls ≠ "java/lang/invoke/VarHandle" ∧ (parseMethodDescriptor yX4_sumOfOrder.desc).map (fun d => d.parameters.length) = some 2 := by decide +kernel
set_option maxRecDepth 100000 in
set_option maxHeartbeats 4000000 in
theorem ct_X4_sumOfOrder {E : Ev} {d : Nat} {z : Sh} {J : MJ} {I : MI} {o0 n0 : Nat} {x1 : Int32} {rr : Int32} (ha0 : o0 ∈ zL z ∧ zK z o0 = 7 ∧ zn z o0 = n0) (h : f_X4_sumOfOrder o0 n0 x1 I = some rr) : Ct E (d + 1) yX4_sumOfOrder cX4_sumOfOrder 4 (some .int) 0 0 [.ref o0, .int x1] z J I (some (.int rr)) z J I := by
  unfold f_X4_sumOfOrder at h
  refine Ct.of (own := RX4) (ls := [(0, .ref o0), (1, .int x1)]) (by decide) rfl (Nat.le_of_ble_eq_true rfl) rfl ?_
  intro X hr0 hnm hX
  refine g_iconst hX (pc := 0) (v := 0) dX4_sumOfOrder_0 (by decide) ?_
  refine g_istore_n hX (pc := 1) (i := 2) (ls' := [(0, .ref o0), (1, .int x1), (2, .int 0)]) [1, 2, 0] dX4_sumOfOrder_1 rfl (by decide) rfl ?_
  refine g_iconst hX (pc := 2) (v := 0) dX4_sumOfOrder_2 (by decide) ?_
  refine g_istore_n hX (pc := 3) (i := 3) (ls' := [(0, .ref o0), (1, .int x1), (2, .int 0), (3, .int 0)]) [1, 2, 3, 0] dX4_sumOfOrder_3 rfl (by decide) rfl ?_
  obtain ⟨p7, hpl3, h⟩ := bnd h
  have Kl3 : ∀ ql3 : Int32 × Int32, ql3 = p7 → GW E X (QX E X 0 0 (some (.int rr)) z J I) 4 26 [(0, .ref o0), (1, .int x1), (2, .int ql3.1), (3, .int ql3.2)] [] z J I 0 0 := by
    intro ql3 hql3
    subst hql3
    refine g_iload_n hX (pc := 26) (i := 2) dX4_sumOfOrder_26 rfl 2 rfl ?_
    obtain rfl := Option.some.inj h
    exact g_ireturn hX (Nat.le_refl _) (Nat.le_refl _) dX4_sumOfOrder_27
  obtain ⟨kl3, hkl3⟩ := lp_ex hpl3
  clear hpl3 h
  have Ll3 : ∀ k : Nat, ∀ (s1 : Int32) (s2 : Int32), lpN k (b_X4_sumOfOrder_4 o0 n0 x1 I) ((s1, s2)) = some p7 → GW E X (QX E X 0 0 (some (.int rr)) z J I) 4 4 [(0, .ref o0), (1, .int x1), (2, .int s1), (3, .int s2)] [] z J I 0 0 := by
    intro k
    induction k with
    | zero => intro s1 s2 h; cases h
    | succ k ihl3 =>
      intro s1 s2 h
      obtain ⟨wl3, h, hwl3⟩ := lpN_s h
      unfold b_X4_sumOfOrder_4 at h
      try dsimp only at h
      refine g_iload_n hX (pc := 4) (i := 3) dX4_sumOfOrder_4 rfl 3 rfl ?_
      refine g_bipush hX (pc := 5) (v := 10) dX4_sumOfOrder_5 (by decide) ?_
      refine g_icmp_ge hX (pc := 7) dX4_sumOfOrder_7 (tgt := 26) (by decide) (fun c4 => ?_) (fun c4 => ?_)
      · replace h := ifP c4 h
        refine g_iload_n hX (pc := 10) (i := 2) dX4_sumOfOrder_10 rfl 2 rfl ?_
        refine g_aload_n hX (pc := 11) (i := 0) dX4_sumOfOrder_11 rfl 0 rfl ?_
        refine g_iload_n hX (pc := 12) (i := 1) dX4_sumOfOrder_12 rfl 1 rfl ?_
        refine g_iload_n hX (pc := 13) (i := 3) dX4_sumOfOrder_13 rfl 3 rfl ?_
        obtain ⟨r5, e_r5, h⟩ := bnd h
        refine g_callSi hX (pc := 14) (d := d + 0) hr0 [.int x1, .int s2] (ct_X4_cell (d := d + 0)  e_r5) co_X4_cell ml_X4_135 sta_X4_cell ini_X4 nm_X4_cell (by decide) ⟨Nat.le_refl _, Nat.le_refl _⟩ (Nat.le_refl _) (Nat.le_of_ble_eq_true rfl) rfl dX4_sumOfOrder_14 ?_
        obtain ⟨v6, e_v6, h⟩ := bnd h
        refine g_ialoadE hX (pc := 17) ha0.1 ha0.2.1 ha0.2.2 e_v6 dX4_sumOfOrder_17 ?_
        refine g_iadd hX (pc := 18) dX4_sumOfOrder_18 ?_
        refine g_istore_n hX (pc := 19) (i := 2) (ls' := [(0, .ref o0), (1, .int x1), (2, .int (s1 + v6)), (3, .int s2)]) [1, 2, 0, 3] dX4_sumOfOrder_19 rfl (by decide) rfl ?_
        refine g_iinc hX (pc := 20) (i := 3) (v := s2 + 1) (ls' := [(0, .ref o0), (1, .int x1), (2, .int (s1 + v6)), (3, .int (s2 + 1))]) 3 [1, 2, 3, 0] dX4_sumOfOrder_20 rfl (by rfl) (by decide) rfl ?_
        refine g_goto hX (pc := 23) (tgt := 4) dX4_sumOfOrder_23 (by decide) ?_
        obtain rfl := Option.some.inj h
        exact ihl3 (s1 + v6) (s2 + 1) hwl3
      · replace h := ifN c4 h
        obtain rfl := Option.some.inj h
        exact Kl3 ((s1, s2)) hwl3
  exact Ll3 kl3 0 0 hkl3
noncomputable def f_X0_copyFrom (o0 : Nat) (o1 : Nat) (I : MI) : Option (MI) :=
  (cpy 10 10 I (o1 + 1) 0 (o0 + 1) 0 10).bind fun I1 =>
  (cpy 16 16 I1 (o1 + 2) 0 (o0 + 2) 0 16).bind fun I2 =>
  (cpy 16 16 I2 (o1 + 3) 0 (o0 + 3) 0 16).bind fun I3 =>
  (cpy 8 8 I3 (o1 + 4) 0 (o0 + 4) 0 8).bind fun I4 =>
  (cpy 160 160 I4 (o1 + 5) 0 (o0 + 5) 0 160).bind fun I5 =>
  (cpy 160 160 I5 (o1 + 6) 0 (o0 + 6) 0 160).bind fun I6 =>
  (cpy 16 16 I6 (o1 + 7) 0 (o0 + 7) 0 16).bind fun I7 =>
  (wf I7 o0 7 (I7 o1 7)).bind fun I8 =>
  (cpy 864 864 I8 (o1 + 8) 0 (o0 + 8) 0 864).bind fun I9 =>
  (wf I9 o0 9 (I9 o1 9)).bind fun I10 =>
  (wf I10 o0 10 (I10 o1 10)).bind fun I11 =>
  (cpy 864 864 I11 (o1 + 9) 0 (o0 + 9) 0 864).bind fun I12 =>
  (wf I12 o0 12 (I12 o1 12)).bind fun I13 =>
  some I13
theorem nm_X0_copyFrom : yX0_copyFrom.cls ≠ "java/lang/invoke/MethodHandle" ∧ yX0_copyFrom.cls ≠ "java/lang/invoke/VarHandle" ∧ (parseMethodDescriptor yX0_copyFrom.desc).map (fun d => d.parameters.length) = some 1 := by decide +kernel
set_option maxRecDepth 100000 in
set_option maxHeartbeats 4000000 in
theorem ct_X0_copyFrom {E : Ev} {d : Nat} {z : Sh} {J : MJ} {I : MI} {o0 : Nat} {o1 : Nat} {Iz : MI} (ho0 : oX0 z o0) (ho1 : oX0 z o1) (h : f_X0_copyFrom o0 o1 I = some Iz) : Ct E (d + 1) yX0_copyFrom cX0_copyFrom 2 none 0 0 [.ref o0, .ref o1] z J I none z J Iz := by
  unfold f_X0_copyFrom at h
  refine Ct.of (own := RX0) (ls := [(0, .ref o0), (1, .ref o1)]) (by decide) rfl (Nat.le_of_ble_eq_true rfl) rfl ?_
  intro X hr0 hnm hX
  refine g_aload_n hX (pc := 0) (i := 1) dX0_copyFrom_0 rfl 1 rfl ?_
  refine gf0_0 hX (pc := 1) ho1 fl_X0_9 dX0_copyFrom_1 ?_
  refine g_iconst hX (pc := 4) (v := 0) dX0_copyFrom_4 (by decide) ?_
  refine g_aload_n hX (pc := 5) (i := 0) dX0_copyFrom_5 rfl 0 rfl ?_
  refine gf0_0 hX (pc := 6) ho0 fl_X0_9 dX0_copyFrom_6 ?_
  refine g_iconst hX (pc := 9) (v := 0) dX0_copyFrom_9 (by decide) ?_
  refine g_bipush hX (pc := 10) (v := 10) dX0_copyFrom_10 (by decide) ?_
  obtain ⟨I1, e_I1, h⟩ := bnd h
  refine g_copyi (d := d + 0) hX (pc := 12) hr0 (s0_0 ho1).1 (s0_0 ho1).2.1 (s0_0 ho1).2.2.1 (s0_0 ho0).1 (s0_0 ho0).2.1 (s0_0 ho0).2.2.1 e_I1 ml_X0_63 (by exact Nat.le_of_ble_eq_true rfl) dX0_copyFrom_12 ?_
  refine g_aload_n hX (pc := 15) (i := 1) dX0_copyFrom_15 rfl 1 rfl ?_
  refine gf0_1 hX (pc := 16) ho1 fl_X0_15 dX0_copyFrom_16 ?_
  refine g_iconst hX (pc := 19) (v := 0) dX0_copyFrom_19 (by decide) ?_
  refine g_aload_n hX (pc := 20) (i := 0) dX0_copyFrom_20 rfl 0 rfl ?_
  refine gf0_1 hX (pc := 21) ho0 fl_X0_15 dX0_copyFrom_21 ?_
  refine g_iconst hX (pc := 24) (v := 0) dX0_copyFrom_24 (by decide) ?_
  refine g_bipush hX (pc := 25) (v := 16) dX0_copyFrom_25 (by decide) ?_
  obtain ⟨I2, e_I2, h⟩ := bnd h
  refine g_copyi (d := d + 0) hX (pc := 27) hr0 (s0_1 ho1).1 (s0_1 ho1).2.1 (s0_1 ho1).2.2.1 (s0_1 ho0).1 (s0_1 ho0).2.1 (s0_1 ho0).2.2.1 e_I2 ml_X0_63 (by exact Nat.le_of_ble_eq_true rfl) dX0_copyFrom_27 ?_
  refine g_aload_n hX (pc := 30) (i := 1) dX0_copyFrom_30 rfl 1 rfl ?_
  refine gf0_2 hX (pc := 31) ho1 fl_X0_18 dX0_copyFrom_31 ?_
  refine g_iconst hX (pc := 34) (v := 0) dX0_copyFrom_34 (by decide) ?_
  refine g_aload_n hX (pc := 35) (i := 0) dX0_copyFrom_35 rfl 0 rfl ?_
  refine gf0_2 hX (pc := 36) ho0 fl_X0_18 dX0_copyFrom_36 ?_
  refine g_iconst hX (pc := 39) (v := 0) dX0_copyFrom_39 (by decide) ?_
  refine g_bipush hX (pc := 40) (v := 16) dX0_copyFrom_40 (by decide) ?_
  obtain ⟨I3, e_I3, h⟩ := bnd h
  refine g_copyi (d := d + 0) hX (pc := 42) hr0 (s0_2 ho1).1 (s0_2 ho1).2.1 (s0_2 ho1).2.2.1 (s0_2 ho0).1 (s0_2 ho0).2.1 (s0_2 ho0).2.2.1 e_I3 ml_X0_63 (by exact Nat.le_of_ble_eq_true rfl) dX0_copyFrom_42 ?_
  refine g_aload_n hX (pc := 45) (i := 1) dX0_copyFrom_45 rfl 1 rfl ?_
  refine gf0_3 hX (pc := 46) ho1 fl_X0_21 dX0_copyFrom_46 ?_
  refine g_iconst hX (pc := 49) (v := 0) dX0_copyFrom_49 (by decide) ?_
  refine g_aload_n hX (pc := 50) (i := 0) dX0_copyFrom_50 rfl 0 rfl ?_
  refine gf0_3 hX (pc := 51) ho0 fl_X0_21 dX0_copyFrom_51 ?_
  refine g_iconst hX (pc := 54) (v := 0) dX0_copyFrom_54 (by decide) ?_
  refine g_bipush hX (pc := 55) (v := 8) dX0_copyFrom_55 (by decide) ?_
  obtain ⟨I4, e_I4, h⟩ := bnd h
  refine g_copyi (d := d + 0) hX (pc := 57) hr0 (s0_3 ho1).1 (s0_3 ho1).2.1 (s0_3 ho1).2.2.1 (s0_3 ho0).1 (s0_3 ho0).2.1 (s0_3 ho0).2.2.1 e_I4 ml_X0_63 (by exact Nat.le_of_ble_eq_true rfl) dX0_copyFrom_57 ?_
  refine g_aload_n hX (pc := 60) (i := 1) dX0_copyFrom_60 rfl 1 rfl ?_
  refine gf0_4 hX (pc := 61) ho1 fl_X0_24 dX0_copyFrom_61 ?_
  refine g_iconst hX (pc := 64) (v := 0) dX0_copyFrom_64 (by decide) ?_
  refine g_aload_n hX (pc := 65) (i := 0) dX0_copyFrom_65 rfl 0 rfl ?_
  refine gf0_4 hX (pc := 66) ho0 fl_X0_24 dX0_copyFrom_66 ?_
  refine g_iconst hX (pc := 69) (v := 0) dX0_copyFrom_69 (by decide) ?_
  refine g_sipush hX (pc := 70) (v := 160) dX0_copyFrom_70 (by decide) ?_
  obtain ⟨I5, e_I5, h⟩ := bnd h
  refine g_copyi (d := d + 0) hX (pc := 73) hr0 (s0_4 ho1).1 (s0_4 ho1).2.1 (s0_4 ho1).2.2.1 (s0_4 ho0).1 (s0_4 ho0).2.1 (s0_4 ho0).2.2.1 e_I5 ml_X0_63 (by exact Nat.le_of_ble_eq_true rfl) dX0_copyFrom_73 ?_
  refine g_aload_n hX (pc := 76) (i := 1) dX0_copyFrom_76 rfl 1 rfl ?_
  refine gf0_5 hX (pc := 77) ho1 fl_X0_27 dX0_copyFrom_77 ?_
  refine g_iconst hX (pc := 80) (v := 0) dX0_copyFrom_80 (by decide) ?_
  refine g_aload_n hX (pc := 81) (i := 0) dX0_copyFrom_81 rfl 0 rfl ?_
  refine gf0_5 hX (pc := 82) ho0 fl_X0_27 dX0_copyFrom_82 ?_
  refine g_iconst hX (pc := 85) (v := 0) dX0_copyFrom_85 (by decide) ?_
  refine g_sipush hX (pc := 86) (v := 160) dX0_copyFrom_86 (by decide) ?_
  obtain ⟨I6, e_I6, h⟩ := bnd h
  refine g_copyi (d := d + 0) hX (pc := 89) hr0 (s0_5 ho1).1 (s0_5 ho1).2.1 (s0_5 ho1).2.2.1 (s0_5 ho0).1 (s0_5 ho0).2.1 (s0_5 ho0).2.2.1 e_I6 ml_X0_63 (by exact Nat.le_of_ble_eq_true rfl) dX0_copyFrom_89 ?_
  refine g_aload_n hX (pc := 92) (i := 1) dX0_copyFrom_92 rfl 1 rfl ?_
  refine gf0_6 hX (pc := 93) ho1 fl_X0_30 dX0_copyFrom_93 ?_
  refine g_iconst hX (pc := 96) (v := 0) dX0_copyFrom_96 (by decide) ?_
  refine g_aload_n hX (pc := 97) (i := 0) dX0_copyFrom_97 rfl 0 rfl ?_
  refine gf0_6 hX (pc := 98) ho0 fl_X0_30 dX0_copyFrom_98 ?_
  refine g_iconst hX (pc := 101) (v := 0) dX0_copyFrom_101 (by decide) ?_
  refine g_bipush hX (pc := 102) (v := 16) dX0_copyFrom_102 (by decide) ?_
  obtain ⟨I7, e_I7, h⟩ := bnd h
  refine g_copyi (d := d + 0) hX (pc := 104) hr0 (s0_6 ho1).1 (s0_6 ho1).2.1 (s0_6 ho1).2.2.1 (s0_6 ho0).1 (s0_6 ho0).2.1 (s0_6 ho0).2.2.1 e_I7 ml_X0_63 (by exact Nat.le_of_ble_eq_true rfl) dX0_copyFrom_104 ?_
  refine g_aload_n hX (pc := 107) (i := 0) dX0_copyFrom_107 rfl 0 rfl ?_
  refine g_aload_n hX (pc := 108) (i := 1) dX0_copyFrom_108 rfl 1 rfl ?_
  refine gf0_7 hX (pc := 109) ho1 fl_X0_33 dX0_copyFrom_109 ?_
  obtain ⟨I8, e_I8, h⟩ := bnd h
  refine pf0_7 hX (pc := 112) ho0 fl_X0_33 dX0_copyFrom_112 e_I8 ?_
  refine g_aload_n hX (pc := 115) (i := 1) dX0_copyFrom_115 rfl 1 rfl ?_
  refine gf0_8 hX (pc := 116) ho1 fl_X0_37 dX0_copyFrom_116 ?_
  refine g_iconst hX (pc := 119) (v := 0) dX0_copyFrom_119 (by decide) ?_
  refine g_aload_n hX (pc := 120) (i := 0) dX0_copyFrom_120 rfl 0 rfl ?_
  refine gf0_8 hX (pc := 121) ho0 fl_X0_37 dX0_copyFrom_121 ?_
  refine g_iconst hX (pc := 124) (v := 0) dX0_copyFrom_124 (by decide) ?_
  refine g_sipush hX (pc := 125) (v := 864) dX0_copyFrom_125 (by decide) ?_
  obtain ⟨I9, e_I9, h⟩ := bnd h
  refine g_copyi (d := d + 0) hX (pc := 128) hr0 (s0_8 ho1).1 (s0_8 ho1).2.1 (s0_8 ho1).2.2.1 (s0_8 ho0).1 (s0_8 ho0).2.1 (s0_8 ho0).2.2.1 e_I9 ml_X0_63 (by exact Nat.le_of_ble_eq_true rfl) dX0_copyFrom_128 ?_
  refine g_aload_n hX (pc := 131) (i := 0) dX0_copyFrom_131 rfl 0 rfl ?_
  refine g_aload_n hX (pc := 132) (i := 1) dX0_copyFrom_132 rfl 1 rfl ?_
  refine gf0_9 hX (pc := 133) ho1 fl_X0_40 dX0_copyFrom_133 ?_
  obtain ⟨I10, e_I10, h⟩ := bnd h
  refine pf0_9 hX (pc := 136) ho0 fl_X0_40 dX0_copyFrom_136 e_I10 ?_
  refine g_aload_n hX (pc := 139) (i := 0) dX0_copyFrom_139 rfl 0 rfl ?_
  refine g_aload_n hX (pc := 140) (i := 1) dX0_copyFrom_140 rfl 1 rfl ?_
  refine gf0_10 hX (pc := 141) ho1 fl_X0_43 dX0_copyFrom_141 ?_
  obtain ⟨I11, e_I11, h⟩ := bnd h
  refine pf0_10 hX (pc := 144) ho0 fl_X0_43 dX0_copyFrom_144 e_I11 ?_
  refine g_aload_n hX (pc := 147) (i := 1) dX0_copyFrom_147 rfl 1 rfl ?_
  refine gf0_11 hX (pc := 148) ho1 fl_X0_46 dX0_copyFrom_148 ?_
  refine g_iconst hX (pc := 151) (v := 0) dX0_copyFrom_151 (by decide) ?_
  refine g_aload_n hX (pc := 152) (i := 0) dX0_copyFrom_152 rfl 0 rfl ?_
  refine gf0_11 hX (pc := 153) ho0 fl_X0_46 dX0_copyFrom_153 ?_
  refine g_iconst hX (pc := 156) (v := 0) dX0_copyFrom_156 (by decide) ?_
  refine g_sipush hX (pc := 157) (v := 864) dX0_copyFrom_157 (by decide) ?_
  obtain ⟨I12, e_I12, h⟩ := bnd h
  refine g_copyi (d := d + 0) hX (pc := 160) hr0 (s0_11 ho1).1 (s0_11 ho1).2.1 (s0_11 ho1).2.2.1 (s0_11 ho0).1 (s0_11 ho0).2.1 (s0_11 ho0).2.2.1 e_I12 ml_X0_63 (by exact Nat.le_of_ble_eq_true rfl) dX0_copyFrom_160 ?_
  refine g_aload_n hX (pc := 163) (i := 0) dX0_copyFrom_163 rfl 0 rfl ?_
  refine g_aload_n hX (pc := 164) (i := 1) dX0_copyFrom_164 rfl 1 rfl ?_
  refine gf0_12 hX (pc := 165) ho1 fl_X0_49 dX0_copyFrom_165 ?_
  obtain ⟨I13, e_I13, h⟩ := bnd h
  refine pf0_12 hX (pc := 168) ho0 fl_X0_49 dX0_copyFrom_168 e_I13 ?_
  obtain rfl := Option.some.inj h
  exact g_return hX (Nat.le_refl _) (Nat.le_refl _) dX0_copyFrom_171
noncomputable def b_X0_waiting_4 (o0 : Nat) (o1 : Nat) (I : MI) (s : Int32 × Int32) : Option ((Int32 × Int32) ⊕ (Int32 × Int32)) :=
  if s.2 < (I o1 10) then
    (rd 16 (I (o0 + 2)) s.2).bind fun v5 =>
    (if v5 = 0 then
      some (s.1 ||| ((1 : Int32) <<< (s.2 &&& 31)))
    else
      some s.1).bind fun (p8 : Int32) =>
    some (.inl ((p8, s.2 + 1)))
  else
    some (.inr ((s.1, s.2)))
noncomputable def f_X0_waiting (o0 : Nat) (o1 : Nat) (I : MI) : Option (Int32) :=
  (lp (b_X0_waiting_4 o0 o1 I) ((0, 0))).bind fun p9 =>
  some p9.1
theorem nm_X0_waiting : yX0_waiting.cls ≠ "java/lang/invoke/MethodHandle" ∧ yX0_waiting.cls ≠ "java/lang/invoke/VarHandle" ∧ (parseMethodDescriptor yX0_waiting.desc).map (fun d => d.parameters.length) = some 1 := by decide +kernel
set_option maxRecDepth 100000 in
set_option maxHeartbeats 4000000 in
theorem ct_X0_waiting {E : Ev} {d : Nat} {z : Sh} {J : MJ} {I : MI} {o0 : Nat} {o1 : Nat} {rr : Int32} (ho0 : oX0 z o0) (ho1 : oX3 z o1) (h : f_X0_waiting o0 o1 I = some rr) : Ct E (d + 0) yX0_waiting cX0_waiting 4 (some .int) 0 0 [.ref o0, .ref o1] z J I (some (.int rr)) z J I := by
  unfold f_X0_waiting at h
  refine Ct.of (own := RX0) (ls := [(0, .ref o0), (1, .ref o1)]) (by decide) rfl (Nat.le_of_ble_eq_true rfl) rfl ?_
  intro X hr0 hnm hX
  refine g_iconst hX (pc := 0) (v := 0) dX0_waiting_0 (by decide) ?_
  refine g_istore_n hX (pc := 1) (i := 2) (ls' := [(0, .ref o0), (1, .ref o1), (2, .int 0)]) [1, 2, 0] dX0_waiting_1 rfl (by decide) rfl ?_
  refine g_iconst hX (pc := 2) (v := 0) dX0_waiting_2 (by decide) ?_
  refine g_istore_n hX (pc := 3) (i := 3) (ls' := [(0, .ref o0), (1, .ref o1), (2, .int 0), (3, .int 0)]) [1, 2, 3, 0] dX0_waiting_3 rfl (by decide) rfl ?_
  obtain ⟨p9, hpl3, h⟩ := bnd h
  have Kl3 : ∀ ql3 : Int32 × Int32, ql3 = p9 → GW E X (QX E X 0 0 (some (.int rr)) z J I) 4 33 [(0, .ref o0), (1, .ref o1), (2, .int ql3.1), (3, .int ql3.2)] [] z J I 0 0 := by
    intro ql3 hql3
    subst hql3
    refine g_iload_n hX (pc := 33) (i := 2) dX0_waiting_33 rfl 2 rfl ?_
    obtain rfl := Option.some.inj h
    exact g_ireturn hX (Nat.le_refl _) (Nat.le_refl _) dX0_waiting_34
  obtain ⟨kl3, hkl3⟩ := lp_ex hpl3
  clear hpl3 h
  have Ll3 : ∀ k : Nat, ∀ (s1 : Int32) (s2 : Int32), lpN k (b_X0_waiting_4 o0 o1 I) ((s1, s2)) = some p9 → GW E X (QX E X 0 0 (some (.int rr)) z J I) 4 4 [(0, .ref o0), (1, .ref o1), (2, .int s1), (3, .int s2)] [] z J I 0 0 := by
    intro k
    induction k with
    | zero => intro s1 s2 h; cases h
    | succ k ihl3 =>
      intro s1 s2 h
      obtain ⟨wl3, h, hwl3⟩ := lpN_s h
      unfold b_X0_waiting_4 at h
      try dsimp only at h
      refine g_iload_n hX (pc := 4) (i := 3) dX0_waiting_4 rfl 3 rfl ?_
      refine g_aload_n hX (pc := 5) (i := 1) dX0_waiting_5 rfl 1 rfl ?_
      refine gf3_10 hX (pc := 6) ho1 fl_X0_69 dX0_waiting_6 ?_
      refine g_icmp_ge hX (pc := 9) dX0_waiting_9 (tgt := 33) (by decide) (fun c4 => ?_) (fun c4 => ?_)
      · replace h := ifP c4 h
        refine g_aload_n hX (pc := 12) (i := 0) dX0_waiting_12 rfl 0 rfl ?_
        refine gf0_1 hX (pc := 13) ho0 fl_X0_15 dX0_waiting_13 ?_
        refine g_iload_n hX (pc := 16) (i := 3) dX0_waiting_16 rfl 3 rfl ?_
        obtain ⟨v5, e_v5, h⟩ := bnd h
        refine g_ialoadE hX (pc := 17) (s0_1 ho0).1 (s0_1 ho0).2.1 (s0_1 ho0).2.2.1 e_v5 dX0_waiting_17 ?_
        obtain ⟨p8, hpj7, h⟩ := bnd h
        have Kj7 : ∀ qj7 : Int32, qj7 = p8 → GW E X (QX E X 0 0 (some (.int rr)) z J I) 4 27 [(0, .ref o0), (1, .ref o1), (2, .int qj7), (3, .int s2)] [] z J I 0 0 := by
          intro qj7 hqj7
          subst hqj7
          refine g_iinc hX (pc := 27) (i := 3) (v := s2 + 1) (ls' := [(0, .ref o0), (1, .ref o1), (2, .int qj7), (3, .int (s2 + 1))]) 3 [1, 2, 3, 0] dX0_waiting_27 rfl (by rfl) (by decide) rfl ?_
          refine g_goto hX (pc := 30) (tgt := 4) dX0_waiting_30 (by decide) ?_
          obtain rfl := Option.some.inj h
          exact ihl3 qj7 (s2 + 1) hwl3
        replace h := hpj7
        clear hpj7
        refine g_if_ne hX (pc := 18) dX0_waiting_18 (tgt := 27) (by decide) (fun c6 => ?_) (fun c6 => ?_)
        · replace h := ifP c6 h
          refine g_iload_n hX (pc := 21) (i := 2) dX0_waiting_21 rfl 2 rfl ?_
          refine g_iconst hX (pc := 22) (v := 1) dX0_waiting_22 (by decide) ?_
          refine g_iload_n hX (pc := 23) (i := 3) dX0_waiting_23 rfl 3 rfl ?_
          refine g_ishl hX (pc := 24) dX0_waiting_24 ?_
          refine g_ior hX (pc := 25) dX0_waiting_25 ?_
          refine g_istore_n hX (pc := 26) (i := 2) (ls' := [(0, .ref o0), (1, .ref o1), (2, .int (s1 ||| ((1 : Int32) <<< (s2 &&& 31)))), (3, .int s2)]) [1, 2, 0, 3] dX0_waiting_26 rfl (by decide) rfl ?_
          exact Kj7 (s1 ||| ((1 : Int32) <<< (s2 &&& 31))) (Option.some.inj h)
        · replace h := ifN c6 h
          exact Kj7 s1 (Option.some.inj h)
      · replace h := ifN c4 h
        obtain rfl := Option.some.inj h
        exact Kl3 ((s1, s2)) hwl3
  exact Ll3 kl3 0 0 hkl3
noncomputable def b_X0_lateOfItem_4 (o0 : Nat) (x1 : Int32) (I : MI) (s : Int32 × Int32) : Option ((Int32 × Int32) ⊕ (Int32 × Int32)) :=
  if s.2 < 16 then
    (f_X4_cell s.2 x1).bind fun r5 =>
    (rd 160 (I (o0 + 6)) r5).bind fun v6 =>
    some (.inl ((s.1 + v6, s.2 + 1)))
  else
    some (.inr ((s.1, s.2)))
noncomputable def f_X0_lateOfItem (o0 : Nat) (x1 : Int32) (I : MI) : Option (Int32) :=
  (lp (b_X0_lateOfItem_4 o0 x1 I) ((0, 0))).bind fun p7 =>
  some p7.1
theorem nm_X0_lateOfItem : yX0_lateOfItem.cls ≠ "java/lang/invoke/MethodHandle" ∧ yX0_lateOfItem.cls ≠ "java/lang/invoke/VarHandle" ∧ (parseMethodDescriptor yX0_lateOfItem.desc).map (fun d => d.parameters.length) = some 1 := by decide +kernel
set_option maxRecDepth 100000 in
set_option maxHeartbeats 4000000 in
theorem ct_X0_lateOfItem {E : Ev} {d : Nat} {z : Sh} {J : MJ} {I : MI} {o0 : Nat} {x1 : Int32} {rr : Int32} (ho0 : oX0 z o0) (h : f_X0_lateOfItem o0 x1 I = some rr) : Ct E (d + 1) yX0_lateOfItem cX0_lateOfItem 4 (some .int) 0 0 [.ref o0, .int x1] z J I (some (.int rr)) z J I := by
  unfold f_X0_lateOfItem at h
  refine Ct.of (own := RX0) (ls := [(0, .ref o0), (1, .int x1)]) (by decide) rfl (Nat.le_of_ble_eq_true rfl) rfl ?_
  intro X hr0 hnm hX
  refine g_iconst hX (pc := 0) (v := 0) dX0_lateOfItem_0 (by decide) ?_
  refine g_istore_n hX (pc := 1) (i := 2) (ls' := [(0, .ref o0), (1, .int x1), (2, .int 0)]) [1, 2, 0] dX0_lateOfItem_1 rfl (by decide) rfl ?_
  refine g_iconst hX (pc := 2) (v := 0) dX0_lateOfItem_2 (by decide) ?_
  refine g_istore_n hX (pc := 3) (i := 3) (ls' := [(0, .ref o0), (1, .int x1), (2, .int 0), (3, .int 0)]) [1, 2, 3, 0] dX0_lateOfItem_3 rfl (by decide) rfl ?_
  obtain ⟨p7, hpl3, h⟩ := bnd h
  have Kl3 : ∀ ql3 : Int32 × Int32, ql3 = p7 → GW E X (QX E X 0 0 (some (.int rr)) z J I) 4 29 [(0, .ref o0), (1, .int x1), (2, .int ql3.1), (3, .int ql3.2)] [] z J I 0 0 := by
    intro ql3 hql3
    subst hql3
    refine g_iload_n hX (pc := 29) (i := 2) dX0_lateOfItem_29 rfl 2 rfl ?_
    obtain rfl := Option.some.inj h
    exact g_ireturn hX (Nat.le_refl _) (Nat.le_refl _) dX0_lateOfItem_30
  obtain ⟨kl3, hkl3⟩ := lp_ex hpl3
  clear hpl3 h
  have Ll3 : ∀ k : Nat, ∀ (s1 : Int32) (s2 : Int32), lpN k (b_X0_lateOfItem_4 o0 x1 I) ((s1, s2)) = some p7 → GW E X (QX E X 0 0 (some (.int rr)) z J I) 4 4 [(0, .ref o0), (1, .int x1), (2, .int s1), (3, .int s2)] [] z J I 0 0 := by
    intro k
    induction k with
    | zero => intro s1 s2 h; cases h
    | succ k ihl3 =>
      intro s1 s2 h
      obtain ⟨wl3, h, hwl3⟩ := lpN_s h
      unfold b_X0_lateOfItem_4 at h
      try dsimp only at h
      refine g_iload_n hX (pc := 4) (i := 3) dX0_lateOfItem_4 rfl 3 rfl ?_
      refine g_bipush hX (pc := 5) (v := 16) dX0_lateOfItem_5 (by decide) ?_
      refine g_icmp_ge hX (pc := 7) dX0_lateOfItem_7 (tgt := 29) (by decide) (fun c4 => ?_) (fun c4 => ?_)
      · replace h := ifP c4 h
        refine g_iload_n hX (pc := 10) (i := 2) dX0_lateOfItem_10 rfl 2 rfl ?_
        refine g_aload_n hX (pc := 11) (i := 0) dX0_lateOfItem_11 rfl 0 rfl ?_
        refine gf0_5 hX (pc := 12) ho0 fl_X0_27 dX0_lateOfItem_12 ?_
        refine g_iload_n hX (pc := 15) (i := 3) dX0_lateOfItem_15 rfl 3 rfl ?_
        refine g_iload_n hX (pc := 16) (i := 1) dX0_lateOfItem_16 rfl 1 rfl ?_
        obtain ⟨r5, e_r5, h⟩ := bnd h
        refine g_callSNi hX (pc := 17) (d := d + 0) hr0 [.int s2, .int x1] (host := RX4) (ct_X4_cell (d := d + 0)  e_r5) co_X4_cell (by decide) sta_X4_cell ini_X4 nm_X4_cell (by decide) ⟨Nat.le_refl _, Nat.le_refl _⟩ (Nat.le_refl _) (Nat.le_of_ble_eq_true rfl) rfl dX0_lateOfItem_17 ?_
        obtain ⟨v6, e_v6, h⟩ := bnd h
        refine g_ialoadE hX (pc := 20) (s0_5 ho0).1 (s0_5 ho0).2.1 (s0_5 ho0).2.2.1 e_v6 dX0_lateOfItem_20 ?_
        refine g_iadd hX (pc := 21) dX0_lateOfItem_21 ?_
        refine g_istore_n hX (pc := 22) (i := 2) (ls' := [(0, .ref o0), (1, .int x1), (2, .int (s1 + v6)), (3, .int s2)]) [1, 2, 0, 3] dX0_lateOfItem_22 rfl (by decide) rfl ?_
        refine g_iinc hX (pc := 23) (i := 3) (v := s2 + 1) (ls' := [(0, .ref o0), (1, .int x1), (2, .int (s1 + v6)), (3, .int (s2 + 1))]) 3 [1, 2, 3, 0] dX0_lateOfItem_23 rfl (by rfl) (by decide) rfl ?_
        refine g_goto hX (pc := 26) (tgt := 4) dX0_lateOfItem_26 (by decide) ?_
        obtain rfl := Option.some.inj h
        exact ihl3 (s1 + v6) (s2 + 1) hwl3
      · replace h := ifN c4 h
        obtain rfl := Option.some.inj h
        exact Kl3 ((s1, s2)) hwl3
  exact Ll3 kl3 0 0 hkl3
noncomputable def b_X0_lateOfAll_4 (o0 : Nat) (I : MI) (s : Int32 × Int32) : Option ((Int32 × Int32) ⊕ (Int32 × Int32)) :=
  if s.2 < 16 then
    (f_X4_sumOfOrder (o0 + 6) 160 s.2 I).bind fun r5 =>
    some (.inl ((s.1 + r5, s.2 + 1)))
  else
    some (.inr ((s.1, s.2)))
noncomputable def f_X0_lateOfAll (o0 : Nat) (I : MI) : Option (Int32) :=
  (lp (b_X0_lateOfAll_4 o0 I) ((0, 0))).bind fun p6 =>
  some p6.1
theorem nm_X0_lateOfAll : yX0_lateOfAll.cls ≠ "java/lang/invoke/MethodHandle" ∧ yX0_lateOfAll.cls ≠ "java/lang/invoke/VarHandle" ∧ (parseMethodDescriptor yX0_lateOfAll.desc).map (fun d => d.parameters.length) = some 0 := by decide +kernel
set_option maxRecDepth 100000 in
set_option maxHeartbeats 4000000 in
theorem ct_X0_lateOfAll {E : Ev} {d : Nat} {z : Sh} {J : MJ} {I : MI} {o0 : Nat} {rr : Int32} (ho0 : oX0 z o0) (h : f_X0_lateOfAll o0 I = some rr) : Ct E (d + 2) yX0_lateOfAll cX0_lateOfAll 3 (some .int) 0 0 [.ref o0] z J I (some (.int rr)) z J I := by
  unfold f_X0_lateOfAll at h
  refine Ct.of (own := RX0) (ls := [(0, .ref o0)]) (by decide) rfl (Nat.le_of_ble_eq_true rfl) rfl ?_
  intro X hr0 hnm hX
  refine g_iconst hX (pc := 0) (v := 0) dX0_lateOfAll_0 (by decide) ?_
  refine g_istore_n hX (pc := 1) (i := 1) (ls' := [(0, .ref o0), (1, .int 0)]) [1, 0] dX0_lateOfAll_1 rfl (by decide) rfl ?_
  refine g_iconst hX (pc := 2) (v := 0) dX0_lateOfAll_2 (by decide) ?_
  refine g_istore_n hX (pc := 3) (i := 2) (ls' := [(0, .ref o0), (1, .int 0), (2, .int 0)]) [1, 2, 0] dX0_lateOfAll_3 rfl (by decide) rfl ?_
  obtain ⟨p6, hpl3, h⟩ := bnd h
  have Kl3 : ∀ ql3 : Int32 × Int32, ql3 = p6 → GW E X (QX E X 0 0 (some (.int rr)) z J I) 3 27 [(0, .ref o0), (1, .int ql3.1), (2, .int ql3.2)] [] z J I 0 0 := by
    intro ql3 hql3
    subst hql3
    refine g_iload_n hX (pc := 27) (i := 1) dX0_lateOfAll_27 rfl 1 rfl ?_
    obtain rfl := Option.some.inj h
    exact g_ireturn hX (Nat.le_refl _) (Nat.le_refl _) dX0_lateOfAll_28
  obtain ⟨kl3, hkl3⟩ := lp_ex hpl3
  clear hpl3 h
  have Ll3 : ∀ k : Nat, ∀ (s1 : Int32) (s2 : Int32), lpN k (b_X0_lateOfAll_4 o0 I) ((s1, s2)) = some p6 → GW E X (QX E X 0 0 (some (.int rr)) z J I) 3 4 [(0, .ref o0), (1, .int s1), (2, .int s2)] [] z J I 0 0 := by
    intro k
    induction k with
    | zero => intro s1 s2 h; cases h
    | succ k ihl3 =>
      intro s1 s2 h
      obtain ⟨wl3, h, hwl3⟩ := lpN_s h
      unfold b_X0_lateOfAll_4 at h
      try dsimp only at h
      refine g_iload_n hX (pc := 4) (i := 2) dX0_lateOfAll_4 rfl 2 rfl ?_
      refine g_bipush hX (pc := 5) (v := 16) dX0_lateOfAll_5 (by decide) ?_
      refine g_icmp_ge hX (pc := 7) dX0_lateOfAll_7 (tgt := 27) (by decide) (fun c4 => ?_) (fun c4 => ?_)
      · replace h := ifP c4 h
        refine g_iload_n hX (pc := 10) (i := 1) dX0_lateOfAll_10 rfl 1 rfl ?_
        refine g_aload_n hX (pc := 11) (i := 0) dX0_lateOfAll_11 rfl 0 rfl ?_
        refine gf0_5 hX (pc := 12) ho0 fl_X0_27 dX0_lateOfAll_12 ?_
        refine g_iload_n hX (pc := 15) (i := 2) dX0_lateOfAll_15 rfl 2 rfl ?_
        obtain ⟨r5, e_r5, h⟩ := bnd h
        refine g_callSNi hX (pc := 16) (d := d + 1) hr0 [.ref (o0 + 6), .int s2] (host := RX4) (ct_X4_sumOfOrder (d := d + 0) ⟨(s0_5 ho0).1, (s0_5 ho0).2.1, (s0_5 ho0).2.2.1⟩ e_r5) co_X4_sumOfOrder (by decide) sta_X4_sumOfOrder ini_X4 nm_X4_sumOfOrder (by decide) ⟨Nat.le_refl _, Nat.le_refl _⟩ (Nat.le_refl _) (Nat.le_of_ble_eq_true rfl) rfl dX0_lateOfAll_16 ?_
        refine g_iadd hX (pc := 19) dX0_lateOfAll_19 ?_
        refine g_istore_n hX (pc := 20) (i := 1) (ls' := [(0, .ref o0), (1, .int (s1 + r5)), (2, .int s2)]) [1, 0, 2] dX0_lateOfAll_20 rfl (by decide) rfl ?_
        refine g_iinc hX (pc := 21) (i := 2) (v := s2 + 1) (ls' := [(0, .ref o0), (1, .int (s1 + r5)), (2, .int (s2 + 1))]) 2 [1, 2, 0] dX0_lateOfAll_21 rfl (by rfl) (by decide) rfl ?_
        refine g_goto hX (pc := 24) (tgt := 4) dX0_lateOfAll_24 (by decide) ?_
        obtain rfl := Option.some.inj h
        exact ihl3 (s1 + r5) (s2 + 1) hwl3
      · replace h := ifN c4 h
        obtain rfl := Option.some.inj h
        exact Kl3 ((s1, s2)) hwl3
  exact Ll3 kl3 0 0 hkl3
noncomputable def f_X0_onBelt (o0 : Nat) (I : MI) : Option (Int32) :=
  some ((I o0 10) - (I o0 9))
theorem nm_X0_onBelt : yX0_onBelt.cls ≠ "java/lang/invoke/MethodHandle" ∧ yX0_onBelt.cls ≠ "java/lang/invoke/VarHandle" ∧ (parseMethodDescriptor yX0_onBelt.desc).map (fun d => d.parameters.length) = some 0 := by decide +kernel
set_option maxRecDepth 100000 in
set_option maxHeartbeats 4000000 in
theorem ct_X0_onBelt {E : Ev} {d : Nat} {z : Sh} {J : MJ} {I : MI} {o0 : Nat} {rr : Int32} (ho0 : oX0 z o0) (h : f_X0_onBelt o0 I = some rr) : Ct E (d + 0) yX0_onBelt cX0_onBelt 1 (some .int) 0 0 [.ref o0] z J I (some (.int rr)) z J I := by
  unfold f_X0_onBelt at h
  refine Ct.of (own := RX0) (ls := [(0, .ref o0)]) (by decide) rfl (Nat.le_of_ble_eq_true rfl) rfl ?_
  intro X hr0 hnm hX
  refine g_aload_n hX (pc := 0) (i := 0) dX0_onBelt_0 rfl 0 rfl ?_
  refine gf0_10 hX (pc := 1) ho0 fl_X0_43 dX0_onBelt_1 ?_
  refine g_aload_n hX (pc := 4) (i := 0) dX0_onBelt_4 rfl 0 rfl ?_
  refine gf0_9 hX (pc := 5) ho0 fl_X0_40 dX0_onBelt_5 ?_
  refine g_isub hX (pc := 8) dX0_onBelt_8 ?_
  obtain rfl := Option.some.inj h
  exact g_ireturn hX (Nat.le_refl _) (Nat.le_refl _) dX0_onBelt_9
noncomputable def b_X0_freeHoles_4 (o0 : Nat) (o1 : Nat) (I : MI) (s : Int32 × Int32) : Option ((Int32 × Int32) ⊕ (Int32 × Int32)) :=
  if s.2 < (I o1 1) then
    (rd 8 (I (o0 + 4)) s.2).bind fun v5 =>
    (if v5 = ((-1)) then
      some (s.1 + 1)
    else
      some s.1).bind fun (p8 : Int32) =>
    some (.inl ((p8, s.2 + 1)))
  else
    some (.inr ((s.1, s.2)))
noncomputable def f_X0_freeHoles (o0 : Nat) (o1 : Nat) (I : MI) : Option (Int32) :=
  (lp (b_X0_freeHoles_4 o0 o1 I) ((0, 0))).bind fun p9 =>
  some p9.1
theorem nm_X0_freeHoles : yX0_freeHoles.cls ≠ "java/lang/invoke/MethodHandle" ∧ yX0_freeHoles.cls ≠ "java/lang/invoke/VarHandle" ∧ (parseMethodDescriptor yX0_freeHoles.desc).map (fun d => d.parameters.length) = some 1 := by decide +kernel
set_option maxRecDepth 100000 in
set_option maxHeartbeats 4000000 in
theorem ct_X0_freeHoles {E : Ev} {d : Nat} {z : Sh} {J : MJ} {I : MI} {o0 : Nat} {o1 : Nat} {rr : Int32} (ho0 : oX0 z o0) (ho1 : oX3 z o1) (h : f_X0_freeHoles o0 o1 I = some rr) : Ct E (d + 0) yX0_freeHoles cX0_freeHoles 4 (some .int) 0 0 [.ref o0, .ref o1] z J I (some (.int rr)) z J I := by
  unfold f_X0_freeHoles at h
  refine Ct.of (own := RX0) (ls := [(0, .ref o0), (1, .ref o1)]) (by decide) rfl (Nat.le_of_ble_eq_true rfl) rfl ?_
  intro X hr0 hnm hX
  refine g_iconst hX (pc := 0) (v := 0) dX0_freeHoles_0 (by decide) ?_
  refine g_istore_n hX (pc := 1) (i := 2) (ls' := [(0, .ref o0), (1, .ref o1), (2, .int 0)]) [1, 2, 0] dX0_freeHoles_1 rfl (by decide) rfl ?_
  refine g_iconst hX (pc := 2) (v := 0) dX0_freeHoles_2 (by decide) ?_
  refine g_istore_n hX (pc := 3) (i := 3) (ls' := [(0, .ref o0), (1, .ref o1), (2, .int 0), (3, .int 0)]) [1, 2, 3, 0] dX0_freeHoles_3 rfl (by decide) rfl ?_
  obtain ⟨p9, hpl3, h⟩ := bnd h
  have Kl3 : ∀ ql3 : Int32 × Int32, ql3 = p9 → GW E X (QX E X 0 0 (some (.int rr)) z J I) 4 31 [(0, .ref o0), (1, .ref o1), (2, .int ql3.1), (3, .int ql3.2)] [] z J I 0 0 := by
    intro ql3 hql3
    subst hql3
    refine g_iload_n hX (pc := 31) (i := 2) dX0_freeHoles_31 rfl 2 rfl ?_
    obtain rfl := Option.some.inj h
    exact g_ireturn hX (Nat.le_refl _) (Nat.le_refl _) dX0_freeHoles_32
  obtain ⟨kl3, hkl3⟩ := lp_ex hpl3
  clear hpl3 h
  have Ll3 : ∀ k : Nat, ∀ (s1 : Int32) (s2 : Int32), lpN k (b_X0_freeHoles_4 o0 o1 I) ((s1, s2)) = some p9 → GW E X (QX E X 0 0 (some (.int rr)) z J I) 4 4 [(0, .ref o0), (1, .ref o1), (2, .int s1), (3, .int s2)] [] z J I 0 0 := by
    intro k
    induction k with
    | zero => intro s1 s2 h; cases h
    | succ k ihl3 =>
      intro s1 s2 h
      obtain ⟨wl3, h, hwl3⟩ := lpN_s h
      unfold b_X0_freeHoles_4 at h
      try dsimp only at h
      refine g_iload_n hX (pc := 4) (i := 3) dX0_freeHoles_4 rfl 3 rfl ?_
      refine g_aload_n hX (pc := 5) (i := 1) dX0_freeHoles_5 rfl 1 rfl ?_
      refine gf3_1 hX (pc := 6) ho1 fl_X0_80 dX0_freeHoles_6 ?_
      refine g_icmp_ge hX (pc := 9) dX0_freeHoles_9 (tgt := 31) (by decide) (fun c4 => ?_) (fun c4 => ?_)
      · replace h := ifP c4 h
        refine g_aload_n hX (pc := 12) (i := 0) dX0_freeHoles_12 rfl 0 rfl ?_
        refine gf0_3 hX (pc := 13) ho0 fl_X0_21 dX0_freeHoles_13 ?_
        refine g_iload_n hX (pc := 16) (i := 3) dX0_freeHoles_16 rfl 3 rfl ?_
        obtain ⟨v5, e_v5, h⟩ := bnd h
        refine g_ialoadE hX (pc := 17) (s0_3 ho0).1 (s0_3 ho0).2.1 (s0_3 ho0).2.2.1 e_v5 dX0_freeHoles_17 ?_
        refine g_iconst hX (pc := 18) (v := (-1)) dX0_freeHoles_18 (by decide) ?_
        obtain ⟨p8, hpj7, h⟩ := bnd h
        have Kj7 : ∀ qj7 : Int32, qj7 = p8 → GW E X (QX E X 0 0 (some (.int rr)) z J I) 4 25 [(0, .ref o0), (1, .ref o1), (2, .int qj7), (3, .int s2)] [] z J I 0 0 := by
          intro qj7 hqj7
          subst hqj7
          refine g_iinc hX (pc := 25) (i := 3) (v := s2 + 1) (ls' := [(0, .ref o0), (1, .ref o1), (2, .int qj7), (3, .int (s2 + 1))]) 3 [1, 2, 3, 0] dX0_freeHoles_25 rfl (by rfl) (by decide) rfl ?_
          refine g_goto hX (pc := 28) (tgt := 4) dX0_freeHoles_28 (by decide) ?_
          obtain rfl := Option.some.inj h
          exact ihl3 qj7 (s2 + 1) hwl3
        replace h := hpj7
        clear hpj7
        refine g_icmp_ne hX (pc := 19) dX0_freeHoles_19 (tgt := 25) (by decide) (fun c6 => ?_) (fun c6 => ?_)
        · replace h := ifP c6 h
          refine g_iinc hX (pc := 22) (i := 2) (v := s1 + 1) (ls' := [(0, .ref o0), (1, .ref o1), (2, .int (s1 + 1)), (3, .int s2)]) 2 [1, 2, 0, 3] dX0_freeHoles_22 rfl (by rfl) (by decide) rfl ?_
          exact Kj7 (s1 + 1) (Option.some.inj h)
        · replace h := ifN c6 h
          exact Kj7 s1 (Option.some.inj h)
      · replace h := ifN c4 h
        obtain rfl := Option.some.inj h
        exact Kl3 ((s1, s2)) hwl3
  exact Ll3 kl3 0 0 hkl3
noncomputable def f_X0_isStuck (o0 : Nat) (o1 : Nat) (x2 : Int32) (I : MI) : Option (Int32) :=
  (rd 16 (I (o0 + 2)) x2).bind fun v1 =>
  (if v1 = 2 then
    (f_X4_sumOfOrder (o0 + 5) 160 x2 I).bind fun r4 =>
    (f_X4_sumOfOrder (o0 + 6) 160 x2 I).bind fun r5 =>
    (rd 16 (I (o1 + 7)) x2).bind fun v6 =>
    if (r4 + r5) = v6 then
      some 1
    else
      some 0
  else
    some 0).bind fun (p8 : Int32) =>
  (gb p8).bind fun b9 =>
  some p8
theorem nm_X0_isStuck : yX0_isStuck.cls ≠ "java/lang/invoke/MethodHandle" ∧ yX0_isStuck.cls ≠ "java/lang/invoke/VarHandle" ∧ (parseMethodDescriptor yX0_isStuck.desc).map (fun d => d.parameters.length) = some 2 := by decide +kernel
set_option maxRecDepth 100000 in
set_option maxHeartbeats 4000000 in
theorem ct_X0_isStuck {E : Ev} {d : Nat} {z : Sh} {J : MJ} {I : MI} {o0 : Nat} {o1 : Nat} {x2 : Int32} {rr : Int32} (ho0 : oX0 z o0) (ho1 : oX3 z o1) (h : f_X0_isStuck o0 o1 x2 I = some rr) : Ct E (d + 2) yX0_isStuck cX0_isStuck 3 (some .boolean) 0 0 [.ref o0, .ref o1, .int x2] z J I (some (.int rr)) z J I := by
  unfold f_X0_isStuck at h
  refine Ct.of (own := RX0) (ls := [(0, .ref o0), (1, .ref o1), (2, .int x2)]) (by decide) rfl (Nat.le_of_ble_eq_true rfl) rfl ?_
  intro X hr0 hnm hX
  refine g_aload_n hX (pc := 0) (i := 0) dX0_isStuck_0 rfl 0 rfl ?_
  refine gf0_1 hX (pc := 1) ho0 fl_X0_15 dX0_isStuck_1 ?_
  refine g_iload_n hX (pc := 4) (i := 2) dX0_isStuck_4 rfl 2 rfl ?_
  obtain ⟨v1, e_v1, h⟩ := bnd h
  refine g_ialoadE hX (pc := 5) (s0_1 ho0).1 (s0_1 ho0).2.1 (s0_1 ho0).2.2.1 e_v1 dX0_isStuck_5 ?_
  refine g_iconst hX (pc := 6) (v := 2) dX0_isStuck_6 (by decide) ?_
  obtain ⟨p8, hpj3, h⟩ := bnd h
  have Kj3 : ∀ qj3 : Int32, qj3 = p8 → GW E X (QX E X 0 0 (some (.int rr)) z J I) 3 41 [(0, .ref o0), (1, .ref o1), (2, .int x2)] [.int qj3] z J I 0 0 := by
    intro qj3 hqj3
    subst hqj3
    obtain ⟨b9, e_b9, h⟩ := bnd h
    obtain rfl := Option.some.inj h
    exact g_zreturn hX (gb_some e_b9).1 (Nat.le_refl _) (Nat.le_refl _) dX0_isStuck_41
  replace h := hpj3
  clear hpj3
  refine g_icmp_ne hX (pc := 7) dX0_isStuck_7 (tgt := 40) (by decide) (fun c2 => ?_) (fun c2 => ?_)
  · replace h := ifP c2 h
    refine g_aload_n hX (pc := 10) (i := 0) dX0_isStuck_10 rfl 0 rfl ?_
    refine gf0_4 hX (pc := 11) ho0 fl_X0_24 dX0_isStuck_11 ?_
    refine g_iload_n hX (pc := 14) (i := 2) dX0_isStuck_14 rfl 2 rfl ?_
    obtain ⟨r4, e_r4, h⟩ := bnd h
    refine g_callSNi hX (pc := 15) (d := d + 1) hr0 [.ref (o0 + 5), .int x2] (host := RX4) (ct_X4_sumOfOrder (d := d + 0) ⟨(s0_4 ho0).1, (s0_4 ho0).2.1, (s0_4 ho0).2.2.1⟩ e_r4) co_X4_sumOfOrder (by decide) sta_X4_sumOfOrder ini_X4 nm_X4_sumOfOrder (by decide) ⟨Nat.le_refl _, Nat.le_refl _⟩ (Nat.le_refl _) (Nat.le_of_ble_eq_true rfl) rfl dX0_isStuck_15 ?_
    refine g_aload_n hX (pc := 18) (i := 0) dX0_isStuck_18 rfl 0 rfl ?_
    refine gf0_5 hX (pc := 19) ho0 fl_X0_27 dX0_isStuck_19 ?_
    refine g_iload_n hX (pc := 22) (i := 2) dX0_isStuck_22 rfl 2 rfl ?_
    obtain ⟨r5, e_r5, h⟩ := bnd h
    refine g_callSNi hX (pc := 23) (d := d + 1) hr0 [.ref (o0 + 6), .int x2] (host := RX4) (ct_X4_sumOfOrder (d := d + 0) ⟨(s0_5 ho0).1, (s0_5 ho0).2.1, (s0_5 ho0).2.2.1⟩ e_r5) co_X4_sumOfOrder (by decide) sta_X4_sumOfOrder ini_X4 nm_X4_sumOfOrder (by decide) ⟨Nat.le_refl _, Nat.le_refl _⟩ (Nat.le_refl _) (Nat.le_of_ble_eq_true rfl) rfl dX0_isStuck_23 ?_
    refine g_iadd hX (pc := 26) dX0_isStuck_26 ?_
    refine g_aload_n hX (pc := 27) (i := 1) dX0_isStuck_27 rfl 1 rfl ?_
    refine gf3_14 hX (pc := 28) ho1 fl_X0_83 dX0_isStuck_28 ?_
    refine g_iload_n hX (pc := 31) (i := 2) dX0_isStuck_31 rfl 2 rfl ?_
    obtain ⟨v6, e_v6, h⟩ := bnd h
    refine g_ialoadE hX (pc := 32) (s3_14 ho1).1 (s3_14 ho1).2.1 (s3_14 ho1).2.2.1 e_v6 dX0_isStuck_32 ?_
    refine g_icmp_ne hX (pc := 33) dX0_isStuck_33 (tgt := 40) (by decide) (fun c7 => ?_) (fun c7 => ?_)
    · replace h := ifP c7 h
      refine g_iconst hX (pc := 36) (v := 1) dX0_isStuck_36 (by decide) ?_
      refine g_goto hX (pc := 37) (tgt := 41) dX0_isStuck_37 (by decide) ?_
      exact Kj3 1 (Option.some.inj h)
    · replace h := ifN c7 h
      refine g_iconst hX (pc := 40) (v := 0) dX0_isStuck_40 (by decide) ?_
      exact Kj3 0 (Option.some.inj h)
  · replace h := ifN c2 h
    refine g_iconst hX (pc := 40) (v := 0) dX0_isStuck_40 (by decide) ?_
    exact Kj3 0 (Option.some.inj h)
noncomputable def b_X0_putOnBelt_2 (o0 : Nat) (x1 : Int32) (x2 : Int32) (s : Int32 × MI) : Option ((Int32 × MI) ⊕ (Int32 × MI)) :=
  if s.1 < x2 then
    if (s.2 o0 10) < 864 then
      (wr 864 s.2 (o0 + 8) (s.2 o0 10) x1).bind fun I6 =>
      (wf I6 o0 10 ((I6 o0 10) + 1)).bind fun I7 =>
      some (.inl ((s.1 + 1, I7)))
    else
      some (.inr ((s.1, s.2)))
  else
    some (.inr ((s.1, s.2)))
noncomputable def f_X0_putOnBelt (o0 : Nat) (x1 : Int32) (x2 : Int32) (I : MI) : Option (MI) :=
  (lp (b_X0_putOnBelt_2 o0 x1 x2) ((0, I))).bind fun p8 =>
  some p8.2
theorem nm_X0_putOnBelt : yX0_putOnBelt.cls ≠ "java/lang/invoke/MethodHandle" ∧ yX0_putOnBelt.cls ≠ "java/lang/invoke/VarHandle" ∧ (parseMethodDescriptor yX0_putOnBelt.desc).map (fun d => d.parameters.length) = some 2 := by decide +kernel
set_option maxRecDepth 100000 in
set_option maxHeartbeats 4000000 in
theorem ct_X0_putOnBelt {E : Ev} {d : Nat} {z : Sh} {J : MJ} {I : MI} {o0 : Nat} {x1 : Int32} {x2 : Int32} {Iz : MI} (ho0 : oX0 z o0) (h : f_X0_putOnBelt o0 x1 x2 I = some Iz) : Ct E (d + 0) yX0_putOnBelt cX0_putOnBelt 4 none 0 0 [.ref o0, .int x1, .int x2] z J I none z J Iz := by
  unfold f_X0_putOnBelt at h
  refine Ct.of (own := RX0) (ls := [(0, .ref o0), (1, .int x1), (2, .int x2)]) (by decide) rfl (Nat.le_of_ble_eq_true rfl) rfl ?_
  intro X hr0 hnm hX
  refine g_iconst hX (pc := 0) (v := 0) dX0_putOnBelt_0 (by decide) ?_
  refine g_istore_n hX (pc := 1) (i := 3) (ls' := [(0, .ref o0), (1, .int x1), (2, .int x2), (3, .int 0)]) [1, 2, 3, 0] dX0_putOnBelt_1 rfl (by decide) rfl ?_
  obtain ⟨p8, hpl3, h⟩ := bnd h
  have Kl3 : ∀ ql3 : Int32 × MI, ql3 = p8 → GW E X (QX E X 0 0 none z J Iz) 4 43 [(0, .ref o0), (1, .int x1), (2, .int x2), (3, .int ql3.1)] [] z J ql3.2 0 0 := by
    intro ql3 hql3
    subst hql3
    obtain rfl := Option.some.inj h
    exact g_return hX (Nat.le_refl _) (Nat.le_refl _) dX0_putOnBelt_43
  obtain ⟨kl3, hkl3⟩ := lp_ex hpl3
  clear hpl3 h
  have Ll3 : ∀ k : Nat, ∀ (s1 : Int32) (I2 : MI), lpN k (b_X0_putOnBelt_2 o0 x1 x2) ((s1, I2)) = some p8 → GW E X (QX E X 0 0 none z J Iz) 4 2 [(0, .ref o0), (1, .int x1), (2, .int x2), (3, .int s1)] [] z J I2 0 0 := by
    intro k
    induction k with
    | zero => intro s1 I2 h; cases h
    | succ k ihl3 =>
      intro s1 I2 h
      obtain ⟨wl3, h, hwl3⟩ := lpN_s h
      unfold b_X0_putOnBelt_2 at h
      try dsimp only at h
      refine g_iload_n hX (pc := 2) (i := 3) dX0_putOnBelt_2 rfl 3 rfl ?_
      refine g_iload_n hX (pc := 3) (i := 2) dX0_putOnBelt_3 rfl 2 rfl ?_
      refine g_icmp_ge hX (pc := 4) dX0_putOnBelt_4 (tgt := 43) (by decide) (fun c4 => ?_) (fun c4 => ?_)
      · replace h := ifP c4 h
        refine g_aload_n hX (pc := 7) (i := 0) dX0_putOnBelt_7 rfl 0 rfl ?_
        refine gf0_10 hX (pc := 8) ho0 fl_X0_43 dX0_putOnBelt_8 ?_
        refine g_sipush hX (pc := 11) (v := 864) dX0_putOnBelt_11 (by decide) ?_
        refine g_icmp_ge hX (pc := 14) dX0_putOnBelt_14 (tgt := 43) (by decide) (fun c5 => ?_) (fun c5 => ?_)
        · replace h := ifP c5 h
          refine g_aload_n hX (pc := 17) (i := 0) dX0_putOnBelt_17 rfl 0 rfl ?_
          refine gf0_8 hX (pc := 18) ho0 fl_X0_37 dX0_putOnBelt_18 ?_
          refine g_aload_n hX (pc := 21) (i := 0) dX0_putOnBelt_21 rfl 0 rfl ?_
          refine gf0_10 hX (pc := 22) ho0 fl_X0_43 dX0_putOnBelt_22 ?_
          refine g_iload_n hX (pc := 25) (i := 1) dX0_putOnBelt_25 rfl 1 rfl ?_
          obtain ⟨I6, e_I6, h⟩ := bnd h
          refine g_iastoreE hX (pc := 26) (s0_8 ho0).1 (s0_8 ho0).2.1 (s0_8 ho0).2.2.1 e_I6 dX0_putOnBelt_26 ?_
          refine g_aload_n hX (pc := 27) (i := 0) dX0_putOnBelt_27 rfl 0 rfl ?_
          refine g_dup hX (pc := 28) dX0_putOnBelt_28 rfl ?_
          refine gf0_10 hX (pc := 29) ho0 fl_X0_43 dX0_putOnBelt_29 ?_
          refine g_iconst hX (pc := 32) (v := 1) dX0_putOnBelt_32 (by decide) ?_
          refine g_iadd hX (pc := 33) dX0_putOnBelt_33 ?_
          obtain ⟨I7, e_I7, h⟩ := bnd h
          refine pf0_10 hX (pc := 34) ho0 fl_X0_43 dX0_putOnBelt_34 e_I7 ?_
          refine g_iinc hX (pc := 37) (i := 3) (v := s1 + 1) (ls' := [(0, .ref o0), (1, .int x1), (2, .int x2), (3, .int (s1 + 1))]) 3 [1, 2, 3, 0] dX0_putOnBelt_37 rfl (by rfl) (by decide) rfl ?_
          refine g_goto hX (pc := 40) (tgt := 2) dX0_putOnBelt_40 (by decide) ?_
          obtain rfl := Option.some.inj h
          exact ihl3 (s1 + 1) I7 hwl3
        · replace h := ifN c5 h
          obtain rfl := Option.some.inj h
          exact Kl3 ((s1, I2)) hwl3
      · replace h := ifN c4 h
        obtain rfl := Option.some.inj h
        exact Kl3 ((s1, I2)) hwl3
  exact Ll3 kl3 0 I hkl3
noncomputable def f_X0_putAside (o0 : Nat) (x1 : Int32) (I : MI) : Option (MI) :=
  (if (I o0 12) < 864 then
    (wr 864 I (o0 + 9) (I o0 12) x1).bind fun I3 =>
    (wf I3 o0 12 ((I3 o0 12) + 1)).bind fun I4 =>
    some I4
  else
    some I).bind fun (p5 : MI) =>
  some p5
theorem nm_X0_putAside : yX0_putAside.cls ≠ "java/lang/invoke/MethodHandle" ∧ yX0_putAside.cls ≠ "java/lang/invoke/VarHandle" ∧ (parseMethodDescriptor yX0_putAside.desc).map (fun d => d.parameters.length) = some 1 := by decide +kernel
set_option maxRecDepth 100000 in
set_option maxHeartbeats 4000000 in
theorem ct_X0_putAside {E : Ev} {d : Nat} {z : Sh} {J : MJ} {I : MI} {o0 : Nat} {x1 : Int32} {Iz : MI} (ho0 : oX0 z o0) (h : f_X0_putAside o0 x1 I = some Iz) : Ct E (d + 0) yX0_putAside cX0_putAside 2 none 0 0 [.ref o0, .int x1] z J I none z J Iz := by
  unfold f_X0_putAside at h
  refine Ct.of (own := RX0) (ls := [(0, .ref o0), (1, .int x1)]) (by decide) rfl (Nat.le_of_ble_eq_true rfl) rfl ?_
  intro X hr0 hnm hX
  refine g_aload_n hX (pc := 0) (i := 0) dX0_putAside_0 rfl 0 rfl ?_
  refine gf0_12 hX (pc := 1) ho0 fl_X0_49 dX0_putAside_1 ?_
  refine g_sipush hX (pc := 4) (v := 864) dX0_putAside_4 (by decide) ?_
  obtain ⟨p5, hpj2, h⟩ := bnd h
  have Kj2 : ∀ qj2 : MI, qj2 = p5 → GW E X (QX E X 0 0 none z J Iz) 2 30 [(0, .ref o0), (1, .int x1)] [] z J qj2 0 0 := by
    intro qj2 hqj2
    subst hqj2
    obtain rfl := Option.some.inj h
    exact g_return hX (Nat.le_refl _) (Nat.le_refl _) dX0_putAside_30
  replace h := hpj2
  clear hpj2
  refine g_icmp_ge hX (pc := 7) dX0_putAside_7 (tgt := 30) (by decide) (fun c1 => ?_) (fun c1 => ?_)
  · replace h := ifP c1 h
    refine g_aload_n hX (pc := 10) (i := 0) dX0_putAside_10 rfl 0 rfl ?_
    refine gf0_11 hX (pc := 11) ho0 fl_X0_46 dX0_putAside_11 ?_
    refine g_aload_n hX (pc := 14) (i := 0) dX0_putAside_14 rfl 0 rfl ?_
    refine gf0_12 hX (pc := 15) ho0 fl_X0_49 dX0_putAside_15 ?_
    refine g_iload_n hX (pc := 18) (i := 1) dX0_putAside_18 rfl 1 rfl ?_
    obtain ⟨I3, e_I3, h⟩ := bnd h
    refine g_iastoreE hX (pc := 19) (s0_11 ho0).1 (s0_11 ho0).2.1 (s0_11 ho0).2.2.1 e_I3 dX0_putAside_19 ?_
    refine g_aload_n hX (pc := 20) (i := 0) dX0_putAside_20 rfl 0 rfl ?_
    refine g_dup hX (pc := 21) dX0_putAside_21 rfl ?_
    refine gf0_12 hX (pc := 22) ho0 fl_X0_49 dX0_putAside_22 ?_
    refine g_iconst hX (pc := 25) (v := 1) dX0_putAside_25 (by decide) ?_
    refine g_iadd hX (pc := 26) dX0_putAside_26 ?_
    obtain ⟨I4, e_I4, h⟩ := bnd h
    refine pf0_12 hX (pc := 27) ho0 fl_X0_49 dX0_putAside_27 e_I4 ?_
    exact Kj2 I4 (Option.some.inj h)
  · replace h := ifN c1 h
    exact Kj2 I (Option.some.inj h)
noncomputable def b_X0_firstFreeHole_2 (o0 : Nat) (o1 : Nat) (I : MI) (s : Int32) : Option ((Int32) ⊕ ((Int32) ⊕ (Int32))) :=
  if s < (I o1 1) then
    (rd 8 (I (o0 + 4)) s).bind fun v4 =>
    if v4 = ((-1)) then
      some (.inr (.inl s))
    else
      some (.inl (s + 1))
  else
    some (.inr (.inr s))
noncomputable def f_X0_firstFreeHole (o0 : Nat) (o1 : Nat) (I : MI) : Option (Int32) :=
  (lp (b_X0_firstFreeHole_2 o0 o1 I) 0).bind fun p6 =>
  Sum.elim (fun rr => some rr) (fun q7 =>
    some ((-1))) p6
theorem nm_X0_firstFreeHole : yX0_firstFreeHole.cls ≠ "java/lang/invoke/MethodHandle" ∧ yX0_firstFreeHole.cls ≠ "java/lang/invoke/VarHandle" ∧ (parseMethodDescriptor yX0_firstFreeHole.desc).map (fun d => d.parameters.length) = some 1 := by decide +kernel
set_option maxRecDepth 100000 in
set_option maxHeartbeats 4000000 in
theorem ct_X0_firstFreeHole {E : Ev} {d : Nat} {z : Sh} {J : MJ} {I : MI} {o0 : Nat} {o1 : Nat} {rr : Int32} (ho0 : oX0 z o0) (ho1 : oX3 z o1) (h : f_X0_firstFreeHole o0 o1 I = some rr) : Ct E (d + 0) yX0_firstFreeHole cX0_firstFreeHole 3 (some .int) 0 0 [.ref o0, .ref o1] z J I (some (.int rr)) z J I := by
  unfold f_X0_firstFreeHole at h
  refine Ct.of (own := RX0) (ls := [(0, .ref o0), (1, .ref o1)]) (by decide) rfl (Nat.le_of_ble_eq_true rfl) rfl ?_
  intro X hr0 hnm hX
  refine g_iconst hX (pc := 0) (v := 0) dX0_firstFreeHole_0 (by decide) ?_
  refine g_istore_n hX (pc := 1) (i := 2) (ls' := [(0, .ref o0), (1, .ref o1), (2, .int 0)]) [1, 2, 0] dX0_firstFreeHole_1 rfl (by decide) rfl ?_
  obtain ⟨p6, hpl2, h⟩ := bnd h
  have KRl2 : ∀ rl2 : Int32, Sum.inl rl2 = p6 → some rl2 = some rr := by intro rl2 hrl2; subst hrl2; exact h
  have Kl2 : ∀ q7 : Int32, Sum.inr q7 = p6 → GW E X (QX E X 0 0 (some (.int rr)) z J I) 3 28 [(0, .ref o0), (1, .ref o1), (2, .int q7)] [] z J I 0 0 := by
    intro q7 hql2
    subst hql2
    refine g_iconst hX (pc := 28) (v := (-1)) dX0_firstFreeHole_28 (by decide) ?_
    obtain rfl := Option.some.inj h
    exact g_ireturn hX (Nat.le_refl _) (Nat.le_refl _) dX0_firstFreeHole_29
  obtain ⟨kl2, hkl2⟩ := lp_ex hpl2
  clear hpl2 h
  have Ll2 : ∀ k : Nat, ∀ (s1 : Int32), lpN k (b_X0_firstFreeHole_2 o0 o1 I) s1 = some p6 → GW E X (QX E X 0 0 (some (.int rr)) z J I) 3 2 [(0, .ref o0), (1, .ref o1), (2, .int s1)] [] z J I 0 0 := by
    intro k
    induction k with
    | zero => intro s1 h; cases h
    | succ k ihl2 =>
      intro s1 h
      obtain ⟨wl2, h, hwl2⟩ := lpN_s h
      unfold b_X0_firstFreeHole_2 at h
      try dsimp only at h
      refine g_iload_n hX (pc := 2) (i := 2) dX0_firstFreeHole_2 rfl 2 rfl ?_
      refine g_aload_n hX (pc := 3) (i := 1) dX0_firstFreeHole_3 rfl 1 rfl ?_
      refine gf3_1 hX (pc := 4) ho1 fl_X0_80 dX0_firstFreeHole_4 ?_
      refine g_icmp_ge hX (pc := 7) dX0_firstFreeHole_7 (tgt := 28) (by decide) (fun c3 => ?_) (fun c3 => ?_)
      · replace h := ifP c3 h
        refine g_aload_n hX (pc := 10) (i := 0) dX0_firstFreeHole_10 rfl 0 rfl ?_
        refine gf0_3 hX (pc := 11) ho0 fl_X0_21 dX0_firstFreeHole_11 ?_
        refine g_iload_n hX (pc := 14) (i := 2) dX0_firstFreeHole_14 rfl 2 rfl ?_
        obtain ⟨v4, e_v4, h⟩ := bnd h
        refine g_ialoadE hX (pc := 15) (s0_3 ho0).1 (s0_3 ho0).2.1 (s0_3 ho0).2.2.1 e_v4 dX0_firstFreeHole_15 ?_
        refine g_iconst hX (pc := 16) (v := (-1)) dX0_firstFreeHole_16 (by decide) ?_
        refine g_icmp_ne hX (pc := 17) dX0_firstFreeHole_17 (tgt := 22) (by decide) (fun c5 => ?_) (fun c5 => ?_)
        · replace h := ifP c5 h
          refine g_iload_n hX (pc := 20) (i := 2) dX0_firstFreeHole_20 rfl 2 rfl ?_
          obtain rfl := Option.some.inj h
          replace h := KRl2 _ hwl2
          obtain rfl := Option.some.inj h
          exact g_ireturn hX (Nat.le_refl _) (Nat.le_refl _) dX0_firstFreeHole_21
        · replace h := ifN c5 h
          refine g_iinc hX (pc := 22) (i := 2) (v := s1 + 1) (ls' := [(0, .ref o0), (1, .ref o1), (2, .int (s1 + 1))]) 2 [1, 2, 0] dX0_firstFreeHole_22 rfl (by rfl) (by decide) rfl ?_
          refine g_goto hX (pc := 25) (tgt := 2) dX0_firstFreeHole_25 (by decide) ?_
          obtain rfl := Option.some.inj h
          exact ihl2 (s1 + 1) hwl2
      · replace h := ifN c3 h
        obtain rfl := Option.some.inj h
        exact Kl2 s1 hwl2
  exact Ll2 kl2 0 hkl2
noncomputable def f_X0_canCome (o0 : Nat) (o1 : Nat) (x2 : Int32) (I : MI) : Option (Int32) :=
  (rd 16 (I (o0 + 2)) x2).bind fun v1 =>
  (if v1 = 2 then
    some 1
  else
    (rd 16 (I (o0 + 2)) x2).bind fun v4 =>
    if v4 = 3 then
      some 1
    else
      (f_X0_firstFreeHole o0 o1 I).bind fun r6 =>
      if r6 = ((-1)) then
        some 0
      else
        some 1).bind fun (p8 : Int32) =>
  (gb p8).bind fun b9 =>
  some p8
theorem nm_X0_canCome : yX0_canCome.cls ≠ "java/lang/invoke/MethodHandle" ∧ yX0_canCome.cls ≠ "java/lang/invoke/VarHandle" ∧ (parseMethodDescriptor yX0_canCome.desc).map (fun d => d.parameters.length) = some 2 := by decide +kernel
set_option maxRecDepth 100000 in
set_option maxHeartbeats 4000000 in
theorem ct_X0_canCome {E : Ev} {d : Nat} {z : Sh} {J : MJ} {I : MI} {o0 : Nat} {o1 : Nat} {x2 : Int32} {rr : Int32} (ho0 : oX0 z o0) (ho1 : oX3 z o1) (h : f_X0_canCome o0 o1 x2 I = some rr) : Ct E (d + 1) yX0_canCome cX0_canCome 3 (some .boolean) 0 0 [.ref o0, .ref o1, .int x2] z J I (some (.int rr)) z J I := by
  unfold f_X0_canCome at h
  refine Ct.of (own := RX0) (ls := [(0, .ref o0), (1, .ref o1), (2, .int x2)]) (by decide) rfl (Nat.le_of_ble_eq_true rfl) rfl ?_
  intro X hr0 hnm hX
  refine g_aload_n hX (pc := 0) (i := 0) dX0_canCome_0 rfl 0 rfl ?_
  refine gf0_1 hX (pc := 1) ho0 fl_X0_15 dX0_canCome_1 ?_
  refine g_iload_n hX (pc := 4) (i := 2) dX0_canCome_4 rfl 2 rfl ?_
  obtain ⟨v1, e_v1, h⟩ := bnd h
  refine g_ialoadE hX (pc := 5) (s0_1 ho0).1 (s0_1 ho0).2.1 (s0_1 ho0).2.2.1 e_v1 dX0_canCome_5 ?_
  refine g_iconst hX (pc := 6) (v := 2) dX0_canCome_6 (by decide) ?_
  obtain ⟨p8, hpj3, h⟩ := bnd h
  have Kj3 : ∀ qj3 : Int32, qj3 = p8 → GW E X (QX E X 0 0 (some (.int rr)) z J I) 3 34 [(0, .ref o0), (1, .ref o1), (2, .int x2)] [.int qj3] z J I 0 0 := by
    intro qj3 hqj3
    subst hqj3
    obtain ⟨b9, e_b9, h⟩ := bnd h
    obtain rfl := Option.some.inj h
    exact g_zreturn hX (gb_some e_b9).1 (Nat.le_refl _) (Nat.le_refl _) dX0_canCome_34
  replace h := hpj3
  clear hpj3
  refine g_icmp_eq hX (pc := 7) dX0_canCome_7 (tgt := 29) (by decide) (fun c2 => ?_) (fun c2 => ?_)
  · replace h := ifP c2 h
    refine g_iconst hX (pc := 29) (v := 1) dX0_canCome_29 (by decide) ?_
    refine g_goto hX (pc := 30) (tgt := 34) dX0_canCome_30 (by decide) ?_
    exact Kj3 1 (Option.some.inj h)
  · replace h := ifN c2 h
    refine g_aload_n hX (pc := 10) (i := 0) dX0_canCome_10 rfl 0 rfl ?_
    refine gf0_1 hX (pc := 11) ho0 fl_X0_15 dX0_canCome_11 ?_
    refine g_iload_n hX (pc := 14) (i := 2) dX0_canCome_14 rfl 2 rfl ?_
    obtain ⟨v4, e_v4, h⟩ := bnd h
    refine g_ialoadE hX (pc := 15) (s0_1 ho0).1 (s0_1 ho0).2.1 (s0_1 ho0).2.2.1 e_v4 dX0_canCome_15 ?_
    refine g_iconst hX (pc := 16) (v := 3) dX0_canCome_16 (by decide) ?_
    refine g_icmp_eq hX (pc := 17) dX0_canCome_17 (tgt := 29) (by decide) (fun c5 => ?_) (fun c5 => ?_)
    · replace h := ifP c5 h
      refine g_iconst hX (pc := 29) (v := 1) dX0_canCome_29 (by decide) ?_
      refine g_goto hX (pc := 30) (tgt := 34) dX0_canCome_30 (by decide) ?_
      exact Kj3 1 (Option.some.inj h)
    · replace h := ifN c5 h
      refine g_aload_n hX (pc := 20) (i := 0) dX0_canCome_20 rfl 0 rfl ?_
      refine g_aload_n hX (pc := 21) (i := 1) dX0_canCome_21 rfl 1 rfl ?_
      obtain ⟨r6, e_r6, h⟩ := bnd h
      refine g_callVi hX (pc := 22) (d := d + 0) hr0 [.ref o1] (c := 0) (ct_X0_firstFreeHole (d := d + 0) ho0 ho1 e_r6) ho0.1.1 ho0.1.2 (by decide) rfl co_X0_firstFreeHole ml_X0_146 im_X0_firstFreeHole sl_X0_firstFreeHole ini_X0 nm_X0_firstFreeHole (by decide) ⟨Nat.le_refl _, Nat.le_refl _⟩ (Nat.le_refl _) (Nat.le_of_ble_eq_true rfl) rfl dX0_canCome_22 ?_
      refine g_iconst hX (pc := 25) (v := (-1)) dX0_canCome_25 (by decide) ?_
      refine g_icmp_eq hX (pc := 26) dX0_canCome_26 (tgt := 33) (by decide) (fun c7 => ?_) (fun c7 => ?_)
      · replace h := ifP c7 h
        refine g_iconst hX (pc := 33) (v := 0) dX0_canCome_33 (by decide) ?_
        exact Kj3 0 (Option.some.inj h)
      · replace h := ifN c7 h
        refine g_iconst hX (pc := 29) (v := 1) dX0_canCome_29 (by decide) ?_
        refine g_goto hX (pc := 30) (tgt := 34) dX0_canCome_30 (by decide) ?_
        exact Kj3 1 (Option.some.inj h)
noncomputable def f_X0_takeHole (o0 : Nat) (x1 : Int32) (x2 : Int32) (I : MI) : Option (MI) :=
  (if x2 = ((-1)) then
    some I
  else
    (wr 8 I (o0 + 4) x2 x1).bind fun I3 =>
    (wr 16 I3 (o0 + 3) x1 x2).bind fun I4 =>
    (wr 16 I4 (o0 + 2) x1 2).bind fun I5 =>
    some I5).bind fun (p6 : MI) =>
  some p6
theorem nm_X0_takeHole : yX0_takeHole.cls ≠ "java/lang/invoke/MethodHandle" ∧ yX0_takeHole.cls ≠ "java/lang/invoke/VarHandle" ∧ (parseMethodDescriptor yX0_takeHole.desc).map (fun d => d.parameters.length) = some 2 := by decide +kernel
set_option maxRecDepth 100000 in
set_option maxHeartbeats 4000000 in
theorem ct_X0_takeHole {E : Ev} {d : Nat} {z : Sh} {J : MJ} {I : MI} {o0 : Nat} {x1 : Int32} {x2 : Int32} {Iz : MI} (ho0 : oX0 z o0) (h : f_X0_takeHole o0 x1 x2 I = some Iz) : Ct E (d + 0) yX0_takeHole cX0_takeHole 3 none 0 0 [.ref o0, .int x1, .int x2] z J I none z J Iz := by
  unfold f_X0_takeHole at h
  refine Ct.of (own := RX0) (ls := [(0, .ref o0), (1, .int x1), (2, .int x2)]) (by decide) rfl (Nat.le_of_ble_eq_true rfl) rfl ?_
  intro X hr0 hnm hX
  refine g_iload_n hX (pc := 0) (i := 2) dX0_takeHole_0 rfl 2 rfl ?_
  refine g_iconst hX (pc := 1) (v := (-1)) dX0_takeHole_1 (by decide) ?_
  obtain ⟨p6, hpj2, h⟩ := bnd h
  have Kj2 : ∀ qj2 : MI, qj2 = p6 → GW E X (QX E X 0 0 none z J Iz) 3 26 [(0, .ref o0), (1, .int x1), (2, .int x2)] [] z J qj2 0 0 := by
    intro qj2 hqj2
    subst hqj2
    obtain rfl := Option.some.inj h
    exact g_return hX (Nat.le_refl _) (Nat.le_refl _) dX0_takeHole_26
  replace h := hpj2
  clear hpj2
  refine g_icmp_eq hX (pc := 2) dX0_takeHole_2 (tgt := 26) (by decide) (fun c1 => ?_) (fun c1 => ?_)
  · replace h := ifP c1 h
    exact Kj2 I (Option.some.inj h)
  · replace h := ifN c1 h
    refine g_aload_n hX (pc := 5) (i := 0) dX0_takeHole_5 rfl 0 rfl ?_
    refine gf0_3 hX (pc := 6) ho0 fl_X0_21 dX0_takeHole_6 ?_
    refine g_iload_n hX (pc := 9) (i := 2) dX0_takeHole_9 rfl 2 rfl ?_
    refine g_iload_n hX (pc := 10) (i := 1) dX0_takeHole_10 rfl 1 rfl ?_
    obtain ⟨I3, e_I3, h⟩ := bnd h
    refine g_iastoreE hX (pc := 11) (s0_3 ho0).1 (s0_3 ho0).2.1 (s0_3 ho0).2.2.1 e_I3 dX0_takeHole_11 ?_
    refine g_aload_n hX (pc := 12) (i := 0) dX0_takeHole_12 rfl 0 rfl ?_
    refine gf0_2 hX (pc := 13) ho0 fl_X0_18 dX0_takeHole_13 ?_
    refine g_iload_n hX (pc := 16) (i := 1) dX0_takeHole_16 rfl 1 rfl ?_
    refine g_iload_n hX (pc := 17) (i := 2) dX0_takeHole_17 rfl 2 rfl ?_
    obtain ⟨I4, e_I4, h⟩ := bnd h
    refine g_iastoreE hX (pc := 18) (s0_2 ho0).1 (s0_2 ho0).2.1 (s0_2 ho0).2.2.1 e_I4 dX0_takeHole_18 ?_
    refine g_aload_n hX (pc := 19) (i := 0) dX0_takeHole_19 rfl 0 rfl ?_
    refine gf0_1 hX (pc := 20) ho0 fl_X0_15 dX0_takeHole_20 ?_
    refine g_iload_n hX (pc := 23) (i := 1) dX0_takeHole_23 rfl 1 rfl ?_
    refine g_iconst hX (pc := 24) (v := 2) dX0_takeHole_24 (by decide) ?_
    obtain ⟨I5, e_I5, h⟩ := bnd h
    refine g_iastoreE hX (pc := 25) (s0_1 ho0).1 (s0_1 ho0).2.1 (s0_1 ho0).2.2.1 e_I5 dX0_takeHole_25 ?_
    exact Kj2 I5 (Option.some.inj h)
noncomputable def f_X0_leaveHole (o0 : Nat) (x1 : Int32) (I : MI) : Option (Int32 × MI) :=
  (rd 16 (I (o0 + 3)) x1).bind fun v1 =>
  if v1 = ((-1)) then
    some ((0, I))
  else
    (wr 8 I (o0 + 4) v1 ((-1))).bind fun I3 =>
    (wr 16 I3 (o0 + 3) x1 ((-1))).bind fun I4 =>
    some ((1, I4))
theorem nm_X0_leaveHole : yX0_leaveHole.cls ≠ "java/lang/invoke/MethodHandle" ∧ yX0_leaveHole.cls ≠ "java/lang/invoke/VarHandle" ∧ (parseMethodDescriptor yX0_leaveHole.desc).map (fun d => d.parameters.length) = some 1 := by decide +kernel
set_option maxRecDepth 100000 in
set_option maxHeartbeats 4000000 in
theorem ct_X0_leaveHole {E : Ev} {d : Nat} {z : Sh} {J : MJ} {I : MI} {o0 : Nat} {x1 : Int32} {rr : Int32} {Iz : MI} (ho0 : oX0 z o0) (h : f_X0_leaveHole o0 x1 I = some ((rr, Iz))) : Ct E (d + 0) yX0_leaveHole cX0_leaveHole 3 (some .boolean) 0 0 [.ref o0, .int x1] z J I (some (.int rr)) z J Iz := by
  unfold f_X0_leaveHole at h
  refine Ct.of (own := RX0) (ls := [(0, .ref o0), (1, .int x1)]) (by decide) rfl (Nat.le_of_ble_eq_true rfl) rfl ?_
  intro X hr0 hnm hX
  refine g_aload_n hX (pc := 0) (i := 0) dX0_leaveHole_0 rfl 0 rfl ?_
  refine gf0_2 hX (pc := 1) ho0 fl_X0_18 dX0_leaveHole_1 ?_
  refine g_iload_n hX (pc := 4) (i := 1) dX0_leaveHole_4 rfl 1 rfl ?_
  obtain ⟨v1, e_v1, h⟩ := bnd h
  refine g_ialoadE hX (pc := 5) (s0_2 ho0).1 (s0_2 ho0).2.1 (s0_2 ho0).2.2.1 e_v1 dX0_leaveHole_5 ?_
  refine g_istore_n hX (pc := 6) (i := 2) (ls' := [(0, .ref o0), (1, .int x1), (2, .int v1)]) [1, 2, 0] dX0_leaveHole_6 rfl (by decide) rfl ?_
  refine g_iload_n hX (pc := 7) (i := 2) dX0_leaveHole_7 rfl 2 rfl ?_
  refine g_iconst hX (pc := 8) (v := (-1)) dX0_leaveHole_8 (by decide) ?_
  refine g_icmp_ne hX (pc := 9) dX0_leaveHole_9 (tgt := 14) (by decide) (fun c2 => ?_) (fun c2 => ?_)
  · replace h := ifP c2 h
    refine g_iconst hX (pc := 12) (v := 0) dX0_leaveHole_12 (by decide) ?_
    replace h := Option.some.inj h
    obtain ⟨rfl, rfl⟩ := Prod.mk.inj h
    exact g_zreturn hX (Or.inl rfl) (Nat.le_refl _) (Nat.le_refl _) dX0_leaveHole_13
  · replace h := ifN c2 h
    refine g_aload_n hX (pc := 14) (i := 0) dX0_leaveHole_14 rfl 0 rfl ?_
    refine gf0_3 hX (pc := 15) ho0 fl_X0_21 dX0_leaveHole_15 ?_
    refine g_iload_n hX (pc := 18) (i := 2) dX0_leaveHole_18 rfl 2 rfl ?_
    refine g_iconst hX (pc := 19) (v := (-1)) dX0_leaveHole_19 (by decide) ?_
    obtain ⟨I3, e_I3, h⟩ := bnd h
    refine g_iastoreE hX (pc := 20) (s0_3 ho0).1 (s0_3 ho0).2.1 (s0_3 ho0).2.2.1 e_I3 dX0_leaveHole_20 ?_
    refine g_aload_n hX (pc := 21) (i := 0) dX0_leaveHole_21 rfl 0 rfl ?_
    refine gf0_2 hX (pc := 22) ho0 fl_X0_18 dX0_leaveHole_22 ?_
    refine g_iload_n hX (pc := 25) (i := 1) dX0_leaveHole_25 rfl 1 rfl ?_
    refine g_iconst hX (pc := 26) (v := (-1)) dX0_leaveHole_26 (by decide) ?_
    obtain ⟨I4, e_I4, h⟩ := bnd h
    refine g_iastoreE hX (pc := 27) (s0_2 ho0).1 (s0_2 ho0).2.1 (s0_2 ho0).2.2.1 e_I4 dX0_leaveHole_27 ?_
    refine g_iconst hX (pc := 28) (v := 1) dX0_leaveHole_28 (by decide) ?_
    replace h := Option.some.inj h
    obtain ⟨rfl, rfl⟩ := Prod.mk.inj h
    exact g_zreturn hX (Or.inr rfl) (Nat.le_refl _) (Nat.le_refl _) dX0_leaveHole_29
noncomputable def f_X1_init (o0 : Nat) (z : Sh) (I : MI) : Option (Sh × MI) :=
  (wf I o0 0 0).bind fun I1 =>
  (wf I1 o0 1 0).bind fun I2 =>
  (nm (zNa z 7 10)).bind fun z4 =>
  (nm (clr 0 I2 (zs z))).bind fun I3 =>
  (nm (zSt z4 o0 2 (some (zs z)))).bind fun z6 =>
  (nm (zNa z6 7 10)).bind fun z9 =>
  (nm (clr 0 I3 (zs z6))).bind fun I8 =>
  (nm (zSt z9 o0 3 (some (zs z6)))).bind fun z11 =>
  (nm (zNa z11 7 160)).bind fun z14 =>
  (nm (clr 0 I8 (zs z11))).bind fun I13 =>
  (nm (zSt z14 o0 4 (some (zs z11)))).bind fun z16 =>
  (nm (zNa z16 7 6)).bind fun z19 =>
  (nm (clr 0 I13 (zs z16))).bind fun I18 =>
  (nm (zSt z19 o0 5 (some (zs z16)))).bind fun z21 =>
  (nm (zNa z21 7 64)).bind fun z24 =>
  (nm (clr 0 I18 (zs z21))).bind fun I23 =>
  (nm (zSt z24 o0 6 (some (zs z21)))).bind fun z26 =>
  (nm (zNa z26 7 10)).bind fun z29 =>
  (nm (clr 0 I23 (zs z26))).bind fun I28 =>
  (nm (zSt z29 o0 7 (some (zs z26)))).bind fun z31 =>
  (nm (zNa z31 7 16)).bind fun z34 =>
  (nm (clr 0 I28 (zs z31))).bind fun I33 =>
  (nm (zSt z34 o0 8 (some (zs z31)))).bind fun z36 =>
  (nm (zNa z36 9 16)).bind fun z39 =>
  (nm (clr 0 I33 (zs z36))).bind fun I38 =>
  (nm (zSt z39 o0 9 (some (zs z36)))).bind fun z41 =>
  some ((z41, I38))
theorem nm_X1_init : yX1_init.cls ≠ "java/lang/invoke/MethodHandle" ∧ yX1_init.cls ≠ "java/lang/invoke/VarHandle" ∧ (parseMethodDescriptor yX1_init.desc).map (fun d => d.parameters.length) = some 0 := by decide +kernel
set_option maxRecDepth 100000 in
set_option maxHeartbeats 4000000 in
theorem ct_X1_init {E : Ev} {d : Nat} {z : Sh} {J : MJ} {I : MI} {o0 : Nat} {zz : Sh} {Iz : MI} (ho0 : raw z o0 1) (h : f_X1_init o0 z I = some ((zz, Iz))) : Ct E (d + 1) yX1_init cX1_init 1 none 8 292 [.ref o0] z J I none zz J Iz := by
  unfold f_X1_init at h
  refine Ct.of (own := RX1) (ls := [(0, .ref o0)]) (by decide) rfl (Nat.le_of_ble_eq_true rfl) rfl ?_
  intro X hr0 hnm hX
  refine g_aload_n hX (pc := 0) (i := 0) dX1_init_0 rfl 0 rfl ?_
  refine g_objInit hX (pc := 1) (d := d + 0) hr0 ml_X1_3 im_java_lang_Object__init__3 co_objInit (by exact Nat.le_of_ble_eq_true rfl) dX1_init_1 ?_
  refine g_aload_n hX (pc := 4) (i := 0) dX1_init_4 rfl 0 rfl ?_
  refine g_iconst hX (pc := 5) (v := 0) dX1_init_5 (by decide) ?_
  obtain ⟨I1, e_I1, h⟩ := bnd h
  refine pi1_0 hX (pc := 6) ho0 fl_X1_9 dX1_init_6 e_I1 ?_
  refine g_aload_n hX (pc := 9) (i := 0) dX1_init_9 rfl 0 rfl ?_
  refine g_iconst hX (pc := 10) (v := 0) dX1_init_10 (by decide) ?_
  obtain ⟨I2, e_I2, h⟩ := bnd h
  refine pi1_1 hX (pc := 11) ho0 fl_X1_15 dX1_init_11 e_I2 ?_
  refine g_aload_n hX (pc := 14) (i := 0) dX1_init_14 rfl 0 rfl ?_
  refine g_bipush hX (pc := 15) (v := 10) dX1_init_15 (by decide) ?_
  refine g_newA7 hX (pc := 17) hr0 (N := 10) (by decide) (by decide) (by decide) (by decide) dX1_init_17 ?_
  obtain ⟨z4, e_z4, h⟩ := bnd h
  refine g_nmz e_z4 ?_
  have hu5 := raw.nm e_z4 (ho0.na 7 10)
  obtain ⟨I3, e_I3, h⟩ := bnd h
  refine g_nmM e_I3 ?_
  refine pr1_2 hX (pc := 19) hu5 fl_X1_18 hnm rfl dX1_init_19 ?_
  obtain ⟨z6, e_z6, h⟩ := bnd h
  refine g_nmz e_z6 ?_
  have hu7 := raw.nm e_z6 (hu5.st o0 2 (some (zs z)))
  refine g_aload_n hX (pc := 22) (i := 0) dX1_init_22 rfl 0 rfl ?_
  refine g_bipush hX (pc := 23) (v := 10) dX1_init_23 (by decide) ?_
  refine g_newA7 hX (pc := 25) hr0 (N := 10) (by decide) (by decide) (by decide) (by decide) dX1_init_25 ?_
  obtain ⟨z9, e_z9, h⟩ := bnd h
  refine g_nmz e_z9 ?_
  have hu10 := raw.nm e_z9 (hu7.na 7 10)
  obtain ⟨I8, e_I8, h⟩ := bnd h
  refine g_nmM e_I8 ?_
  refine pr1_3 hX (pc := 27) hu10 fl_X1_22 hnm rfl dX1_init_27 ?_
  obtain ⟨z11, e_z11, h⟩ := bnd h
  refine g_nmz e_z11 ?_
  have hu12 := raw.nm e_z11 (hu10.st o0 3 (some (zs z6)))
  refine g_aload_n hX (pc := 30) (i := 0) dX1_init_30 rfl 0 rfl ?_
  refine g_sipush hX (pc := 31) (v := 160) dX1_init_31 (by decide) ?_
  refine g_newA7 hX (pc := 34) hr0 (N := 160) (by decide) (by decide) (by decide) (by decide) dX1_init_34 ?_
  obtain ⟨z14, e_z14, h⟩ := bnd h
  refine g_nmz e_z14 ?_
  have hu15 := raw.nm e_z14 (hu12.na 7 160)
  obtain ⟨I13, e_I13, h⟩ := bnd h
  refine g_nmM e_I13 ?_
  refine pr1_4 hX (pc := 36) hu15 fl_X1_25 hnm rfl dX1_init_36 ?_
  obtain ⟨z16, e_z16, h⟩ := bnd h
  refine g_nmz e_z16 ?_
  have hu17 := raw.nm e_z16 (hu15.st o0 4 (some (zs z11)))
  refine g_aload_n hX (pc := 39) (i := 0) dX1_init_39 rfl 0 rfl ?_
  refine g_bipush hX (pc := 40) (v := 6) dX1_init_40 (by decide) ?_
  refine g_newA7 hX (pc := 42) hr0 (N := 6) (by decide) (by decide) (by decide) (by decide) dX1_init_42 ?_
  obtain ⟨z19, e_z19, h⟩ := bnd h
  refine g_nmz e_z19 ?_
  have hu20 := raw.nm e_z19 (hu17.na 7 6)
  obtain ⟨I18, e_I18, h⟩ := bnd h
  refine g_nmM e_I18 ?_
  refine pr1_5 hX (pc := 44) hu20 fl_X1_28 hnm rfl dX1_init_44 ?_
  obtain ⟨z21, e_z21, h⟩ := bnd h
  refine g_nmz e_z21 ?_
  have hu22 := raw.nm e_z21 (hu20.st o0 5 (some (zs z16)))
  refine g_aload_n hX (pc := 47) (i := 0) dX1_init_47 rfl 0 rfl ?_
  refine g_bipush hX (pc := 48) (v := 64) dX1_init_48 (by decide) ?_
  refine g_newA7 hX (pc := 50) hr0 (N := 64) (by decide) (by decide) (by decide) (by decide) dX1_init_50 ?_
  obtain ⟨z24, e_z24, h⟩ := bnd h
  refine g_nmz e_z24 ?_
  have hu25 := raw.nm e_z24 (hu22.na 7 64)
  obtain ⟨I23, e_I23, h⟩ := bnd h
  refine g_nmM e_I23 ?_
  refine pr1_6 hX (pc := 52) hu25 fl_X1_31 hnm rfl dX1_init_52 ?_
  obtain ⟨z26, e_z26, h⟩ := bnd h
  refine g_nmz e_z26 ?_
  have hu27 := raw.nm e_z26 (hu25.st o0 6 (some (zs z21)))
  refine g_aload_n hX (pc := 55) (i := 0) dX1_init_55 rfl 0 rfl ?_
  refine g_bipush hX (pc := 56) (v := 10) dX1_init_56 (by decide) ?_
  refine g_newA7 hX (pc := 58) hr0 (N := 10) (by decide) (by decide) (by decide) (by decide) dX1_init_58 ?_
  obtain ⟨z29, e_z29, h⟩ := bnd h
  refine g_nmz e_z29 ?_
  have hu30 := raw.nm e_z29 (hu27.na 7 10)
  obtain ⟨I28, e_I28, h⟩ := bnd h
  refine g_nmM e_I28 ?_
  refine pr1_7 hX (pc := 60) hu30 fl_X1_34 hnm rfl dX1_init_60 ?_
  obtain ⟨z31, e_z31, h⟩ := bnd h
  refine g_nmz e_z31 ?_
  have hu32 := raw.nm e_z31 (hu30.st o0 7 (some (zs z26)))
  refine g_aload_n hX (pc := 63) (i := 0) dX1_init_63 rfl 0 rfl ?_
  refine g_bipush hX (pc := 64) (v := 16) dX1_init_64 (by decide) ?_
  refine g_newA7 hX (pc := 66) hr0 (N := 16) (by decide) (by decide) (by decide) (by decide) dX1_init_66 ?_
  obtain ⟨z34, e_z34, h⟩ := bnd h
  refine g_nmz e_z34 ?_
  have hu35 := raw.nm e_z34 (hu32.na 7 16)
  obtain ⟨I33, e_I33, h⟩ := bnd h
  refine g_nmM e_I33 ?_
  refine pr1_8 hX (pc := 68) hu35 fl_X1_37 hnm rfl dX1_init_68 ?_
  obtain ⟨z36, e_z36, h⟩ := bnd h
  refine g_nmz e_z36 ?_
  have hu37 := raw.nm e_z36 (hu35.st o0 8 (some (zs z31)))
  refine g_aload_n hX (pc := 71) (i := 0) dX1_init_71 rfl 0 rfl ?_
  refine g_bipush hX (pc := 72) (v := 16) dX1_init_72 (by decide) ?_
  refine g_newA9 hX (pc := 74) hr0 (N := 16) (by decide) (by decide) (by decide) (by decide) dX1_init_74 ?_
  obtain ⟨z39, e_z39, h⟩ := bnd h
  refine g_nmz e_z39 ?_
  have hu40 := raw.nm e_z39 (hu37.na 9 16)
  obtain ⟨I38, e_I38, h⟩ := bnd h
  refine g_nmM e_I38 ?_
  refine pr1_9 hX (pc := 76) hu40 fl_X1_40 hnm rfl dX1_init_76 ?_
  obtain ⟨z41, e_z41, h⟩ := bnd h
  refine g_nmz e_z41 ?_
  have hu42 := raw.nm e_z41 (hu40.st o0 9 (some (zs z36)))
  replace h := Option.some.inj h
  obtain ⟨rfl, rfl⟩ := Prod.mk.inj h
  exact g_return hX (by decide) (by decide) dX1_init_79
noncomputable def b_X1_distance_7 (o0 : Nat) (o1 : Nat) (I : MI) (s : Int32 × Int32 × Int32) : Option ((Int32 × Int32 × Int32) ⊕ (Int32 × Int32 × Int32)) :=
  if s.2.2 < (I o0 1) then
    (rd 10 (I (o0 + 1)) s.2.2).bind fun v6 =>
    (rd 10 (I (o1 + 2)) v6).bind fun v7 =>
    some (.inl ((s.1 + (iabs (v7 - s.2.1)), v7, s.2.2 + 1)))
  else
    some (.inr ((s.1, s.2.1, s.2.2)))
noncomputable def f_X1_distance (o0 : Nat) (o1 : Nat) (I : MI) : Option (Int32) :=
  (lp (b_X1_distance_7 o0 o1 I) ((0, 0, 0))).bind fun p8 =>
  some (p8.1 + p8.2.1)
theorem nm_X1_distance : yX1_distance.cls ≠ "java/lang/invoke/MethodHandle" ∧ yX1_distance.cls ≠ "java/lang/invoke/VarHandle" ∧ (parseMethodDescriptor yX1_distance.desc).map (fun d => d.parameters.length) = some 1 := by decide +kernel
set_option maxRecDepth 100000 in
set_option maxHeartbeats 4000000 in
theorem ct_X1_distance {E : Ev} {d : Nat} {z : Sh} {J : MJ} {I : MI} {o0 : Nat} {o1 : Nat} {rr : Int32} (ho0 : oX1 z o0) (ho1 : oX3 z o1) (h : f_X1_distance o0 o1 I = some rr) : Ct E (d + 1) yX1_distance cX1_distance 6 (some .int) 0 0 [.ref o0, .ref o1] z J I (some (.int rr)) z J I := by
  unfold f_X1_distance at h
  refine Ct.of (own := RX1) (ls := [(0, .ref o0), (1, .ref o1)]) (by decide) rfl (Nat.le_of_ble_eq_true rfl) rfl ?_
  intro X hr0 hnm hX
  refine g_iconst hX (pc := 0) (v := 0) dX1_distance_0 (by decide) ?_
  refine g_istore_n hX (pc := 1) (i := 2) (ls' := [(0, .ref o0), (1, .ref o1), (2, .int 0)]) [1, 2, 0] dX1_distance_1 rfl (by decide) rfl ?_
  refine g_iconst hX (pc := 2) (v := 0) dX1_distance_2 (by decide) ?_
  refine g_istore_n hX (pc := 3) (i := 3) (ls' := [(0, .ref o0), (1, .ref o1), (2, .int 0), (3, .int 0)]) [1, 2, 3, 0] dX1_distance_3 rfl (by decide) rfl ?_
  refine g_iconst hX (pc := 4) (v := 0) dX1_distance_4 (by decide) ?_
  refine g_istore hX (pc := 5) (ls' := [(0, .ref o0), (1, .ref o1), (2, .int 0), (3, .int 0), (4, .int 0)]) [1, 2, 3, 4, 0] dX1_distance_5 (by decide) rfl ?_
  obtain ⟨p8, hpl4, h⟩ := bnd h
  have Kl4 : ∀ ql4 : Int32 × Int32 × Int32, ql4 = p8 → GW E X (QX E X 0 0 (some (.int rr)) z J I) 6 49 [(0, .ref o0), (1, .ref o1), (2, .int ql4.1), (3, .int ql4.2.1), (4, .int ql4.2.2)] [] z J I 0 0 := by
    intro ql4 hql4
    subst hql4
    refine g_iload_n hX (pc := 49) (i := 2) dX1_distance_49 rfl 2 rfl ?_
    refine g_iload_n hX (pc := 50) (i := 3) dX1_distance_50 rfl 3 rfl ?_
    refine g_iadd hX (pc := 51) dX1_distance_51 ?_
    obtain rfl := Option.some.inj h
    exact g_ireturn hX (Nat.le_refl _) (Nat.le_refl _) dX1_distance_52
  obtain ⟨kl4, hkl4⟩ := lp_ex hpl4
  clear hpl4 h
  have Ll4 : ∀ k : Nat, ∀ (s1 : Int32) (s2 : Int32) (s3 : Int32), lpN k (b_X1_distance_7 o0 o1 I) ((s1, s2, s3)) = some p8 → GW E X (QX E X 0 0 (some (.int rr)) z J I) 6 7 [(0, .ref o0), (1, .ref o1), (2, .int s1), (3, .int s2), (4, .int s3)] [] z J I 0 0 := by
    intro k
    induction k with
    | zero => intro s1 s2 s3 h; cases h
    | succ k ihl4 =>
      intro s1 s2 s3 h
      obtain ⟨wl4, h, hwl4⟩ := lpN_s h
      unfold b_X1_distance_7 at h
      try dsimp only at h
      refine g_iload hX (pc := 7) dX1_distance_7 4 rfl ?_
      refine g_aload_n hX (pc := 9) (i := 0) dX1_distance_9 rfl 0 rfl ?_
      refine gf1_1 hX (pc := 10) ho0 fl_X1_15 dX1_distance_10 ?_
      refine g_icmp_ge hX (pc := 13) dX1_distance_13 (tgt := 49) (by decide) (fun c5 => ?_) (fun c5 => ?_)
      · replace h := ifP c5 h
        refine g_aload_n hX (pc := 16) (i := 1) dX1_distance_16 rfl 1 rfl ?_
        refine gf3_8 hX (pc := 17) ho1 fl_X1_92 dX1_distance_17 ?_
        refine g_aload_n hX (pc := 20) (i := 0) dX1_distance_20 rfl 0 rfl ?_
        refine gf1_2 hX (pc := 21) ho0 fl_X1_18 dX1_distance_21 ?_
        refine g_iload hX (pc := 24) dX1_distance_24 4 rfl ?_
        obtain ⟨v6, e_v6, h⟩ := bnd h
        refine g_ialoadE hX (pc := 26) (s1_2 ho0).1 (s1_2 ho0).2.1 (s1_2 ho0).2.2.1 e_v6 dX1_distance_26 ?_
        obtain ⟨v7, e_v7, h⟩ := bnd h
        refine g_ialoadE hX (pc := 27) (s3_8 ho1).1 (s3_8 ho1).2.1 (s3_8 ho1).2.2.1 e_v7 dX1_distance_27 ?_
        refine g_istore hX (pc := 28) (ls' := [(0, .ref o0), (1, .ref o1), (2, .int s1), (3, .int s2), (4, .int s3), (5, .int v7)]) [1, 2, 3, 4, 5, 0] dX1_distance_28 (by decide) rfl ?_
        refine g_iload_n hX (pc := 30) (i := 2) dX1_distance_30 rfl 2 rfl ?_
        refine g_iload hX (pc := 31) dX1_distance_31 5 rfl ?_
        refine g_iload_n hX (pc := 33) (i := 3) dX1_distance_33 rfl 3 rfl ?_
        refine g_isub hX (pc := 34) dX1_distance_34 ?_
        refine g_mabs (d := d + 0) hX (pc := 35) hr0 ml_X1_95 (by exact Nat.le_of_ble_eq_true rfl) ⟨Nat.zero_le _, Nat.zero_le _⟩ dX1_distance_35 ?_
        refine g_iadd hX (pc := 38) dX1_distance_38 ?_
        refine g_istore_n hX (pc := 39) (i := 2) (ls' := [(0, .ref o0), (1, .ref o1), (2, .int (s1 + (iabs (v7 - s2)))), (3, .int s2), (4, .int s3), (5, .int v7)]) [1, 2, 0, 3, 4, 5] dX1_distance_39 rfl (by decide) rfl ?_
        refine g_iload hX (pc := 40) dX1_distance_40 5 rfl ?_
        refine g_istore_n hX (pc := 42) (i := 3) (ls' := [(0, .ref o0), (1, .ref o1), (2, .int (s1 + (iabs (v7 - s2)))), (3, .int v7), (4, .int s3), (5, .int v7)]) [1, 2, 3, 0, 4, 5] dX1_distance_42 rfl (by decide) rfl ?_
        refine g_iinc hX (pc := 43) (i := 4) (v := s3 + 1) (ls' := [(0, .ref o0), (1, .ref o1), (2, .int (s1 + (iabs (v7 - s2)))), (3, .int v7), (4, .int (s3 + 1)), (5, .int v7)]) 4 [1, 2, 3, 4, 0, 5] dX1_distance_43 rfl (by rfl) (by decide) rfl ?_
        refine g_goto hX (pc := 46) (tgt := 7) dX1_distance_46 (by decide) ?_
        refine g_sub (ls' := [(0, .ref o0), (1, .ref o1), (2, .int (s1 + (iabs (v7 - s2)))), (3, .int v7), (4, .int (s3 + 1))]) [0, 1, 2, 3, 4] rfl ?_
        obtain rfl := Option.some.inj h
        exact ihl4 (s1 + (iabs (v7 - s2))) v7 (s3 + 1) hwl4
      · replace h := ifN c5 h
        obtain rfl := Option.some.inj h
        exact Kl4 ((s1, s2, s3)) hwl4
  exact Ll4 kl4 0 0 0 hkl4
noncomputable def b_X1_needOf_5 (o0 : Nat) (o1 : Nat) (x2 : Int32) (I : MI) (s : Int32 × Int32) : Option ((Int32 × Int32) ⊕ (Int32 × Int32)) :=
  if s.2 < (I o1 10) then
    (f_X4_hasBit (I o0 0) s.2).bind fun r5 =>
    (if r5 = 0 then
      some s.1
    else
      (f_X4_cell s.2 x2).bind fun r8 =>
      (rd 160 (I (o1 + 6)) r8).bind fun v9 =>
      some (s.1 + v9)).bind fun (p10 : Int32) =>
    some (.inl ((p10, s.2 + 1)))
  else
    some (.inr ((s.1, s.2)))
noncomputable def f_X1_needOf (o0 : Nat) (o1 : Nat) (x2 : Int32) (I : MI) : Option (Int32) :=
  (lp (b_X1_needOf_5 o0 o1 x2 I) ((0, 0))).bind fun p11 =>
  some p11.1
theorem nm_X1_needOf : yX1_needOf.cls ≠ "java/lang/invoke/MethodHandle" ∧ yX1_needOf.cls ≠ "java/lang/invoke/VarHandle" ∧ (parseMethodDescriptor yX1_needOf.desc).map (fun d => d.parameters.length) = some 2 := by decide +kernel
set_option maxRecDepth 100000 in
set_option maxHeartbeats 4000000 in
theorem ct_X1_needOf {E : Ev} {d : Nat} {z : Sh} {J : MJ} {I : MI} {o0 : Nat} {o1 : Nat} {x2 : Int32} {rr : Int32} (ho0 : oX1 z o0) (ho1 : oX3 z o1) (h : f_X1_needOf o0 o1 x2 I = some rr) : Ct E (d + 1) yX1_needOf cX1_needOf 5 (some .int) 0 0 [.ref o0, .ref o1, .int x2] z J I (some (.int rr)) z J I := by
  unfold f_X1_needOf at h
  refine Ct.of (own := RX1) (ls := [(0, .ref o0), (1, .ref o1), (2, .int x2)]) (by decide) rfl (Nat.le_of_ble_eq_true rfl) rfl ?_
  intro X hr0 hnm hX
  refine g_iconst hX (pc := 0) (v := 0) dX1_needOf_0 (by decide) ?_
  refine g_istore_n hX (pc := 1) (i := 3) (ls' := [(0, .ref o0), (1, .ref o1), (2, .int x2), (3, .int 0)]) [1, 2, 3, 0] dX1_needOf_1 rfl (by decide) rfl ?_
  refine g_iconst hX (pc := 2) (v := 0) dX1_needOf_2 (by decide) ?_
  refine g_istore hX (pc := 3) (ls' := [(0, .ref o0), (1, .ref o1), (2, .int x2), (3, .int 0), (4, .int 0)]) [1, 2, 3, 4, 0] dX1_needOf_3 (by decide) rfl ?_
  obtain ⟨p11, hpl3, h⟩ := bnd h
  have Kl3 : ∀ ql3 : Int32 × Int32, ql3 = p11 → GW E X (QX E X 0 0 (some (.int rr)) z J I) 5 46 [(0, .ref o0), (1, .ref o1), (2, .int x2), (3, .int ql3.1), (4, .int ql3.2)] [] z J I 0 0 := by
    intro ql3 hql3
    subst hql3
    refine g_iload_n hX (pc := 46) (i := 3) dX1_needOf_46 rfl 3 rfl ?_
    obtain rfl := Option.some.inj h
    exact g_ireturn hX (Nat.le_refl _) (Nat.le_refl _) dX1_needOf_47
  obtain ⟨kl3, hkl3⟩ := lp_ex hpl3
  clear hpl3 h
  have Ll3 : ∀ k : Nat, ∀ (s1 : Int32) (s2 : Int32), lpN k (b_X1_needOf_5 o0 o1 x2 I) ((s1, s2)) = some p11 → GW E X (QX E X 0 0 (some (.int rr)) z J I) 5 5 [(0, .ref o0), (1, .ref o1), (2, .int x2), (3, .int s1), (4, .int s2)] [] z J I 0 0 := by
    intro k
    induction k with
    | zero => intro s1 s2 h; cases h
    | succ k ihl3 =>
      intro s1 s2 h
      obtain ⟨wl3, h, hwl3⟩ := lpN_s h
      unfold b_X1_needOf_5 at h
      try dsimp only at h
      refine g_iload hX (pc := 5) dX1_needOf_5 4 rfl ?_
      refine g_aload_n hX (pc := 7) (i := 1) dX1_needOf_7 rfl 1 rfl ?_
      refine gf3_10 hX (pc := 8) ho1 fl_X1_87 dX1_needOf_8 ?_
      refine g_icmp_ge hX (pc := 11) dX1_needOf_11 (tgt := 46) (by decide) (fun c4 => ?_) (fun c4 => ?_)
      · replace h := ifP c4 h
        refine g_aload_n hX (pc := 14) (i := 0) dX1_needOf_14 rfl 0 rfl ?_
        refine gf1_0 hX (pc := 15) ho0 fl_X1_9 dX1_needOf_15 ?_
        refine g_iload hX (pc := 18) dX1_needOf_18 4 rfl ?_
        obtain ⟨r5, e_r5, h⟩ := bnd h
        refine g_callSNi hX (pc := 20) (d := d + 0) hr0 [.int (I o0 0), .int s2] (host := RX4) (ct_X4_hasBit (d := d + 0)  e_r5) co_X4_hasBit (by decide) sta_X4_hasBit ini_X4 nm_X4_hasBit (by decide) ⟨Nat.le_refl _, Nat.le_refl _⟩ (Nat.le_refl _) (Nat.le_of_ble_eq_true rfl) rfl dX1_needOf_20 ?_
        obtain ⟨p10, hpj7, h⟩ := bnd h
        have Kj7 : ∀ qj7 : Int32, qj7 = p10 → GW E X (QX E X 0 0 (some (.int rr)) z J I) 5 40 [(0, .ref o0), (1, .ref o1), (2, .int x2), (3, .int qj7), (4, .int s2)] [] z J I 0 0 := by
          intro qj7 hqj7
          subst hqj7
          refine g_iinc hX (pc := 40) (i := 4) (v := s2 + 1) (ls' := [(0, .ref o0), (1, .ref o1), (2, .int x2), (3, .int qj7), (4, .int (s2 + 1))]) 4 [1, 2, 3, 4, 0] dX1_needOf_40 rfl (by rfl) (by decide) rfl ?_
          refine g_goto hX (pc := 43) (tgt := 5) dX1_needOf_43 (by decide) ?_
          obtain rfl := Option.some.inj h
          exact ihl3 qj7 (s2 + 1) hwl3
        replace h := hpj7
        clear hpj7
        refine g_if_eq hX (pc := 23) dX1_needOf_23 (tgt := 40) (by decide) (fun c6 => ?_) (fun c6 => ?_)
        · replace h := ifP c6 h
          exact Kj7 s1 (Option.some.inj h)
        · replace h := ifN c6 h
          refine g_iload_n hX (pc := 26) (i := 3) dX1_needOf_26 rfl 3 rfl ?_
          refine g_aload_n hX (pc := 27) (i := 1) dX1_needOf_27 rfl 1 rfl ?_
          refine gf3_13 hX (pc := 28) ho1 fl_X1_119 dX1_needOf_28 ?_
          refine g_iload hX (pc := 31) dX1_needOf_31 4 rfl ?_
          refine g_iload_n hX (pc := 33) (i := 2) dX1_needOf_33 rfl 2 rfl ?_
          obtain ⟨r8, e_r8, h⟩ := bnd h
          refine g_callSNi hX (pc := 34) (d := d + 0) hr0 [.int s2, .int x2] (host := RX4) (ct_X4_cell (d := d + 0)  e_r8) co_X4_cell (by decide) sta_X4_cell ini_X4 nm_X4_cell (by decide) ⟨Nat.le_refl _, Nat.le_refl _⟩ (Nat.le_refl _) (Nat.le_of_ble_eq_true rfl) rfl dX1_needOf_34 ?_
          obtain ⟨v9, e_v9, h⟩ := bnd h
          refine g_ialoadE hX (pc := 37) (s3_13 ho1).1 (s3_13 ho1).2.1 (s3_13 ho1).2.2.1 e_v9 dX1_needOf_37 ?_
          refine g_iadd hX (pc := 38) dX1_needOf_38 ?_
          refine g_istore_n hX (pc := 39) (i := 3) (ls' := [(0, .ref o0), (1, .ref o1), (2, .int x2), (3, .int (s1 + v9)), (4, .int s2)]) [1, 2, 3, 0, 4] dX1_needOf_39 rfl (by decide) rfl ?_
          exact Kj7 (s1 + v9) (Option.some.inj h)
      · replace h := ifN c4 h
        obtain rfl := Option.some.inj h
        exact Kl3 ((s1, s2)) hwl3
  exact Ll3 kl3 0 0 hkl3
noncomputable def b_X1_addPick_6 (o0 : Nat) (o1 : Nat) (x2 : Int32) (s : Int32 × MI) : Option ((Int32 × MI) ⊕ (Int32 × MI)) :=
  if 0 < s.1 then
    (rd 10 (s.2 (o0 + 1)) (s.1 - 1)).bind fun v5 =>
    (rd 10 (s.2 (o1 + 2)) v5).bind fun v6 =>
    (rd 10 (s.2 (o1 + 2)) x2).bind fun v7 =>
    if v7 < v6 then
      (rd 10 (s.2 (o0 + 1)) (s.1 - 1)).bind fun v9 =>
      (wr 10 s.2 (o0 + 1) s.1 v9).bind fun I10 =>
      (rd 10 (I10 (o0 + 2)) (s.1 - 1)).bind fun v11 =>
      (wr 10 I10 (o0 + 2) s.1 v11).bind fun I12 =>
      some (.inl ((s.1 + (-1), I12)))
    else
      some (.inr ((s.1, s.2)))
  else
    some (.inr ((s.1, s.2)))
noncomputable def f_X1_addPick (o0 : Nat) (o1 : Nat) (x2 : Int32) (x3 : Int32) (I : MI) : Option (MI) :=
  (lp (b_X1_addPick_6 o0 o1 x2) ((I o0 1, I))).bind fun p13 =>
  (wr 10 p13.2 (o0 + 1) p13.1 x2).bind fun I14 =>
  (wr 10 I14 (o0 + 2) p13.1 x3).bind fun I15 =>
  (wf I15 o0 1 ((I15 o0 1) + 1)).bind fun I16 =>
  some I16
theorem nm_X1_addPick : yX1_addPick.cls ≠ "java/lang/invoke/MethodHandle" ∧ yX1_addPick.cls ≠ "java/lang/invoke/VarHandle" ∧ (parseMethodDescriptor yX1_addPick.desc).map (fun d => d.parameters.length) = some 3 := by decide +kernel
set_option maxRecDepth 100000 in
set_option maxHeartbeats 4000000 in
theorem ct_X1_addPick {E : Ev} {d : Nat} {z : Sh} {J : MJ} {I : MI} {o0 : Nat} {o1 : Nat} {x2 : Int32} {x3 : Int32} {Iz : MI} (ho0 : oX1 z o0) (ho1 : oX3 z o1) (h : f_X1_addPick o0 o1 x2 x3 I = some Iz) : Ct E (d + 0) yX1_addPick cX1_addPick 5 none 0 0 [.ref o0, .ref o1, .int x2, .int x3] z J I none z J Iz := by
  unfold f_X1_addPick at h
  refine Ct.of (own := RX1) (ls := [(0, .ref o0), (1, .ref o1), (2, .int x2), (3, .int x3)]) (by decide) rfl (Nat.le_of_ble_eq_true rfl) rfl ?_
  intro X hr0 hnm hX
  refine g_aload_n hX (pc := 0) (i := 0) dX1_addPick_0 rfl 0 rfl ?_
  refine gf1_1 hX (pc := 1) ho0 fl_X1_15 dX1_addPick_1 ?_
  refine g_istore hX (pc := 4) (ls' := [(0, .ref o0), (1, .ref o1), (2, .int x2), (3, .int x3), (4, .int (I o0 1))]) [1, 2, 3, 4, 0] dX1_addPick_4 (by decide) rfl ?_
  obtain ⟨p13, hpl3, h⟩ := bnd h
  have Kl3 : ∀ ql3 : Int32 × MI, ql3 = p13 → GW E X (QX E X 0 0 none z J Iz) 5 72 [(0, .ref o0), (1, .ref o1), (2, .int x2), (3, .int x3), (4, .int ql3.1)] [] z J ql3.2 0 0 := by
    intro ql3 hql3
    subst hql3
    refine g_aload_n hX (pc := 72) (i := 0) dX1_addPick_72 rfl 0 rfl ?_
    refine gf1_2 hX (pc := 73) ho0 fl_X1_18 dX1_addPick_73 ?_
    refine g_iload hX (pc := 76) dX1_addPick_76 4 rfl ?_
    refine g_iload_n hX (pc := 78) (i := 2) dX1_addPick_78 rfl 2 rfl ?_
    obtain ⟨I14, e_I14, h⟩ := bnd h
    refine g_iastoreE hX (pc := 79) (s1_2 ho0).1 (s1_2 ho0).2.1 (s1_2 ho0).2.2.1 e_I14 dX1_addPick_79 ?_
    refine g_aload_n hX (pc := 80) (i := 0) dX1_addPick_80 rfl 0 rfl ?_
    refine gf1_3 hX (pc := 81) ho0 fl_X1_22 dX1_addPick_81 ?_
    refine g_iload hX (pc := 84) dX1_addPick_84 4 rfl ?_
    refine g_iload_n hX (pc := 86) (i := 3) dX1_addPick_86 rfl 3 rfl ?_
    obtain ⟨I15, e_I15, h⟩ := bnd h
    refine g_iastoreE hX (pc := 87) (s1_3 ho0).1 (s1_3 ho0).2.1 (s1_3 ho0).2.2.1 e_I15 dX1_addPick_87 ?_
    refine g_aload_n hX (pc := 88) (i := 0) dX1_addPick_88 rfl 0 rfl ?_
    refine g_dup hX (pc := 89) dX1_addPick_89 rfl ?_
    refine gf1_1 hX (pc := 90) ho0 fl_X1_15 dX1_addPick_90 ?_
    refine g_iconst hX (pc := 93) (v := 1) dX1_addPick_93 (by decide) ?_
    refine g_iadd hX (pc := 94) dX1_addPick_94 ?_
    obtain ⟨I16, e_I16, h⟩ := bnd h
    refine pf1_1 hX (pc := 95) ho0 fl_X1_15 dX1_addPick_95 e_I16 ?_
    obtain rfl := Option.some.inj h
    exact g_return hX (Nat.le_refl _) (Nat.le_refl _) dX1_addPick_98
  obtain ⟨kl3, hkl3⟩ := lp_ex hpl3
  clear hpl3 h
  have Ll3 : ∀ k : Nat, ∀ (s1 : Int32) (I2 : MI), lpN k (b_X1_addPick_6 o0 o1 x2) ((s1, I2)) = some p13 → GW E X (QX E X 0 0 none z J Iz) 5 6 [(0, .ref o0), (1, .ref o1), (2, .int x2), (3, .int x3), (4, .int s1)] [] z J I2 0 0 := by
    intro k
    induction k with
    | zero => intro s1 I2 h; cases h
    | succ k ihl3 =>
      intro s1 I2 h
      obtain ⟨wl3, h, hwl3⟩ := lpN_s h
      unfold b_X1_addPick_6 at h
      try dsimp only at h
      refine g_iload hX (pc := 6) dX1_addPick_6 4 rfl ?_
      refine g_if_le hX (pc := 8) dX1_addPick_8 (tgt := 72) (by decide) (fun c4 => ?_) (fun c4 => ?_)
      · replace h := ifP c4 h
        refine g_aload_n hX (pc := 11) (i := 1) dX1_addPick_11 rfl 1 rfl ?_
        refine gf3_8 hX (pc := 12) ho1 fl_X1_92 dX1_addPick_12 ?_
        refine g_aload_n hX (pc := 15) (i := 0) dX1_addPick_15 rfl 0 rfl ?_
        refine gf1_2 hX (pc := 16) ho0 fl_X1_18 dX1_addPick_16 ?_
        refine g_iload hX (pc := 19) dX1_addPick_19 4 rfl ?_
        refine g_iconst hX (pc := 21) (v := 1) dX1_addPick_21 (by decide) ?_
        refine g_isub hX (pc := 22) dX1_addPick_22 ?_
        obtain ⟨v5, e_v5, h⟩ := bnd h
        refine g_ialoadE hX (pc := 23) (s1_2 ho0).1 (s1_2 ho0).2.1 (s1_2 ho0).2.2.1 e_v5 dX1_addPick_23 ?_
        obtain ⟨v6, e_v6, h⟩ := bnd h
        refine g_ialoadE hX (pc := 24) (s3_8 ho1).1 (s3_8 ho1).2.1 (s3_8 ho1).2.2.1 e_v6 dX1_addPick_24 ?_
        refine g_aload_n hX (pc := 25) (i := 1) dX1_addPick_25 rfl 1 rfl ?_
        refine gf3_8 hX (pc := 26) ho1 fl_X1_92 dX1_addPick_26 ?_
        refine g_iload_n hX (pc := 29) (i := 2) dX1_addPick_29 rfl 2 rfl ?_
        obtain ⟨v7, e_v7, h⟩ := bnd h
        refine g_ialoadE hX (pc := 30) (s3_8 ho1).1 (s3_8 ho1).2.1 (s3_8 ho1).2.2.1 e_v7 dX1_addPick_30 ?_
        refine g_icmp_le hX (pc := 31) dX1_addPick_31 (tgt := 72) (by decide) (fun c8 => ?_) (fun c8 => ?_)
        · replace h := ifP c8 h
          refine g_aload_n hX (pc := 34) (i := 0) dX1_addPick_34 rfl 0 rfl ?_
          refine gf1_2 hX (pc := 35) ho0 fl_X1_18 dX1_addPick_35 ?_
          refine g_iload hX (pc := 38) dX1_addPick_38 4 rfl ?_
          refine g_aload_n hX (pc := 40) (i := 0) dX1_addPick_40 rfl 0 rfl ?_
          refine gf1_2 hX (pc := 41) ho0 fl_X1_18 dX1_addPick_41 ?_
          refine g_iload hX (pc := 44) dX1_addPick_44 4 rfl ?_
          refine g_iconst hX (pc := 46) (v := 1) dX1_addPick_46 (by decide) ?_
          refine g_isub hX (pc := 47) dX1_addPick_47 ?_
          obtain ⟨v9, e_v9, h⟩ := bnd h
          refine g_ialoadE hX (pc := 48) (s1_2 ho0).1 (s1_2 ho0).2.1 (s1_2 ho0).2.2.1 e_v9 dX1_addPick_48 ?_
          obtain ⟨I10, e_I10, h⟩ := bnd h
          refine g_iastoreE hX (pc := 49) (s1_2 ho0).1 (s1_2 ho0).2.1 (s1_2 ho0).2.2.1 e_I10 dX1_addPick_49 ?_
          refine g_aload_n hX (pc := 50) (i := 0) dX1_addPick_50 rfl 0 rfl ?_
          refine gf1_3 hX (pc := 51) ho0 fl_X1_22 dX1_addPick_51 ?_
          refine g_iload hX (pc := 54) dX1_addPick_54 4 rfl ?_
          refine g_aload_n hX (pc := 56) (i := 0) dX1_addPick_56 rfl 0 rfl ?_
          refine gf1_3 hX (pc := 57) ho0 fl_X1_22 dX1_addPick_57 ?_
          refine g_iload hX (pc := 60) dX1_addPick_60 4 rfl ?_
          refine g_iconst hX (pc := 62) (v := 1) dX1_addPick_62 (by decide) ?_
          refine g_isub hX (pc := 63) dX1_addPick_63 ?_
          obtain ⟨v11, e_v11, h⟩ := bnd h
          refine g_ialoadE hX (pc := 64) (s1_3 ho0).1 (s1_3 ho0).2.1 (s1_3 ho0).2.2.1 e_v11 dX1_addPick_64 ?_
          obtain ⟨I12, e_I12, h⟩ := bnd h
          refine g_iastoreE hX (pc := 65) (s1_3 ho0).1 (s1_3 ho0).2.1 (s1_3 ho0).2.2.1 e_I12 dX1_addPick_65 ?_
          refine g_iinc hX (pc := 66) (i := 4) (v := s1 + (-1)) (ls' := [(0, .ref o0), (1, .ref o1), (2, .int x2), (3, .int x3), (4, .int (s1 + (-1)))]) 4 [1, 2, 3, 4, 0] dX1_addPick_66 rfl (by rfl) (by decide) rfl ?_
          refine g_goto hX (pc := 69) (tgt := 6) dX1_addPick_69 (by decide) ?_
          obtain rfl := Option.some.inj h
          exact ihl3 (s1 + (-1)) I12 hwl3
        · replace h := ifN c8 h
          obtain rfl := Option.some.inj h
          exact Kl3 ((s1, I2)) hwl3
      · replace h := ifN c4 h
        obtain rfl := Option.some.inj h
        exact Kl3 ((s1, I2)) hwl3
  exact Ll3 kl3 (I o0 1) I hkl3
noncomputable def b_X1_shareOut_6 (o0 : Nat) (o1 : Nat) (x2 : Int32) (s : Int32 × Int32 × MI) : Option ((Int32 × Int32 × MI) ⊕ (Int32 × Int32 × MI)) :=
  if s.2.1 < (s.2.2 o1 10) then
    (rd 16 (s.2.2 (o1 + 9)) s.2.1).bind fun v6 =>
    (f_X4_hasBit (s.2.2 o0 0) v6).bind fun r7 =>
    (if r7 = 0 then
      some ((s.1, s.2.2))
    else
      (f_X4_cell v6 x2).bind fun r10 =>
      (rd 160 (s.2.2 (o1 + 6)) r10).bind fun v11 =>
      (f_X4_cell v6 x2).bind fun r12 =>
      (wr 160 s.2.2 (o0 + 3) r12 (imin s.1 v11)).bind fun I13 =>
      some ((s.1 - (imin s.1 v11), I13))).bind fun (p14 : Int32 × MI) =>
    some (.inl ((p14.1, s.2.1 + 1, p14.2)))
  else
    some (.inr ((s.1, s.2.1, s.2.2)))
noncomputable def f_X1_shareOut (o0 : Nat) (o1 : Nat) (x2 : Int32) (x3 : Int32) (I : MI) : Option (MI) :=
  (lp (b_X1_shareOut_6 o0 o1 x2) ((x3, 0, I))).bind fun p15 =>
  some p15.2.2
theorem nm_X1_shareOut : yX1_shareOut.cls ≠ "java/lang/invoke/MethodHandle" ∧ yX1_shareOut.cls ≠ "java/lang/invoke/VarHandle" ∧ (parseMethodDescriptor yX1_shareOut.desc).map (fun d => d.parameters.length) = some 3 := by decide +kernel
set_option maxRecDepth 100000 in
set_option maxHeartbeats 4000000 in
theorem ct_X1_shareOut {E : Ev} {d : Nat} {z : Sh} {J : MJ} {I : MI} {o0 : Nat} {o1 : Nat} {x2 : Int32} {x3 : Int32} {Iz : MI} (ho0 : oX1 z o0) (ho1 : oX3 z o1) (h : f_X1_shareOut o0 o1 x2 x3 I = some Iz) : Ct E (d + 1) yX1_shareOut cX1_shareOut 8 none 0 0 [.ref o0, .ref o1, .int x2, .int x3] z J I none z J Iz := by
  unfold f_X1_shareOut at h
  refine Ct.of (own := RX1) (ls := [(0, .ref o0), (1, .ref o1), (2, .int x2), (3, .int x3)]) (by decide) rfl (Nat.le_of_ble_eq_true rfl) rfl ?_
  intro X hr0 hnm hX
  refine g_iload_n hX (pc := 0) (i := 3) dX1_shareOut_0 rfl 3 rfl ?_
  refine g_istore hX (pc := 1) (ls' := [(0, .ref o0), (1, .ref o1), (2, .int x2), (3, .int x3), (4, .int x3)]) [1, 2, 3, 4, 0] dX1_shareOut_1 (by decide) rfl ?_
  refine g_iconst hX (pc := 3) (v := 0) dX1_shareOut_3 (by decide) ?_
  refine g_istore hX (pc := 4) (ls' := [(0, .ref o0), (1, .ref o1), (2, .int x2), (3, .int x3), (4, .int x3), (5, .int 0)]) [1, 2, 3, 4, 5, 0] dX1_shareOut_4 (by decide) rfl ?_
  obtain ⟨p15, hpl4, h⟩ := bnd h
  have Kl4 : ∀ ql4 : Int32 × Int32 × MI, ql4 = p15 → GW E X (QX E X 0 0 none z J Iz) 8 80 [(0, .ref o0), (1, .ref o1), (2, .int x2), (3, .int x3), (4, .int ql4.1), (5, .int ql4.2.1)] [] z J ql4.2.2 0 0 := by
    intro ql4 hql4
    subst hql4
    obtain rfl := Option.some.inj h
    exact g_return hX (Nat.le_refl _) (Nat.le_refl _) dX1_shareOut_80
  obtain ⟨kl4, hkl4⟩ := lp_ex hpl4
  clear hpl4 h
  have Ll4 : ∀ k : Nat, ∀ (s1 : Int32) (s2 : Int32) (I3 : MI), lpN k (b_X1_shareOut_6 o0 o1 x2) ((s1, s2, I3)) = some p15 → GW E X (QX E X 0 0 none z J Iz) 8 6 [(0, .ref o0), (1, .ref o1), (2, .int x2), (3, .int x3), (4, .int s1), (5, .int s2)] [] z J I3 0 0 := by
    intro k
    induction k with
    | zero => intro s1 s2 I3 h; cases h
    | succ k ihl4 =>
      intro s1 s2 I3 h
      obtain ⟨wl4, h, hwl4⟩ := lpN_s h
      unfold b_X1_shareOut_6 at h
      try dsimp only at h
      refine g_iload hX (pc := 6) dX1_shareOut_6 5 rfl ?_
      refine g_aload_n hX (pc := 8) (i := 1) dX1_shareOut_8 rfl 1 rfl ?_
      refine gf3_10 hX (pc := 9) ho1 fl_X1_87 dX1_shareOut_9 ?_
      refine g_icmp_ge hX (pc := 12) dX1_shareOut_12 (tgt := 80) (by decide) (fun c5 => ?_) (fun c5 => ?_)
      · replace h := ifP c5 h
        refine g_aload_n hX (pc := 15) (i := 1) dX1_shareOut_15 rfl 1 rfl ?_
        refine gf3_16 hX (pc := 16) ho1 fl_X1_125 dX1_shareOut_16 ?_
        refine g_iload hX (pc := 19) dX1_shareOut_19 5 rfl ?_
        obtain ⟨v6, e_v6, h⟩ := bnd h
        refine g_ialoadE hX (pc := 21) (s3_16 ho1).1 (s3_16 ho1).2.1 (s3_16 ho1).2.2.1 e_v6 dX1_shareOut_21 ?_
        refine g_istore hX (pc := 22) (ls' := [(0, .ref o0), (1, .ref o1), (2, .int x2), (3, .int x3), (4, .int s1), (5, .int s2), (6, .int v6)]) [1, 2, 3, 4, 5, 6, 0] dX1_shareOut_22 (by decide) rfl ?_
        refine g_aload_n hX (pc := 24) (i := 0) dX1_shareOut_24 rfl 0 rfl ?_
        refine gf1_0 hX (pc := 25) ho0 fl_X1_9 dX1_shareOut_25 ?_
        refine g_iload hX (pc := 28) dX1_shareOut_28 6 rfl ?_
        obtain ⟨r7, e_r7, h⟩ := bnd h
        refine g_callSNi hX (pc := 30) (d := d + 0) hr0 [.int (I3 o0 0), .int v6] (host := RX4) (ct_X4_hasBit (d := d + 0)  e_r7) co_X4_hasBit (by decide) sta_X4_hasBit ini_X4 nm_X4_hasBit (by decide) ⟨Nat.le_refl _, Nat.le_refl _⟩ (Nat.le_refl _) (Nat.le_of_ble_eq_true rfl) rfl dX1_shareOut_30 ?_
        obtain ⟨p14, hpj9, h⟩ := bnd h
        have Kj9 : ∀ qj9 : Int32 × MI, qj9 = p14 → GW E X (QX E X 0 0 none z J Iz) 8 74 [(0, .ref o0), (1, .ref o1), (2, .int x2), (3, .int x3), (4, .int qj9.1), (5, .int s2), (6, .int v6)] [] z J qj9.2 0 0 := by
          intro qj9 hqj9
          subst hqj9
          refine g_iinc hX (pc := 74) (i := 5) (v := s2 + 1) (ls' := [(0, .ref o0), (1, .ref o1), (2, .int x2), (3, .int x3), (4, .int qj9.1), (5, .int (s2 + 1)), (6, .int v6)]) 5 [1, 2, 3, 4, 5, 0, 6] dX1_shareOut_74 rfl (by rfl) (by decide) rfl ?_
          refine g_goto hX (pc := 77) (tgt := 6) dX1_shareOut_77 (by decide) ?_
          refine g_sub (ls' := [(0, .ref o0), (1, .ref o1), (2, .int x2), (3, .int x3), (4, .int qj9.1), (5, .int (s2 + 1))]) [0, 1, 2, 3, 4, 5] rfl ?_
          obtain rfl := Option.some.inj h
          exact ihl4 qj9.1 (s2 + 1) qj9.2 hwl4
        replace h := hpj9
        clear hpj9
        refine g_if_eq hX (pc := 33) dX1_shareOut_33 (tgt := 74) (by decide) (fun c8 => ?_) (fun c8 => ?_)
        · replace h := ifP c8 h
          exact Kj9 ((s1, I3)) (Option.some.inj h)
        · replace h := ifN c8 h
          refine g_iload hX (pc := 36) dX1_shareOut_36 4 rfl ?_
          refine g_aload_n hX (pc := 38) (i := 1) dX1_shareOut_38 rfl 1 rfl ?_
          refine gf3_13 hX (pc := 39) ho1 fl_X1_119 dX1_shareOut_39 ?_
          refine g_iload hX (pc := 42) dX1_shareOut_42 6 rfl ?_
          refine g_iload_n hX (pc := 44) (i := 2) dX1_shareOut_44 rfl 2 rfl ?_
          obtain ⟨r10, e_r10, h⟩ := bnd h
          refine g_callSNi hX (pc := 45) (d := d + 0) hr0 [.int v6, .int x2] (host := RX4) (ct_X4_cell (d := d + 0)  e_r10) co_X4_cell (by decide) sta_X4_cell ini_X4 nm_X4_cell (by decide) ⟨Nat.le_refl _, Nat.le_refl _⟩ (Nat.le_refl _) (Nat.le_of_ble_eq_true rfl) rfl dX1_shareOut_45 ?_
          obtain ⟨v11, e_v11, h⟩ := bnd h
          refine g_ialoadE hX (pc := 48) (s3_13 ho1).1 (s3_13 ho1).2.1 (s3_13 ho1).2.2.1 e_v11 dX1_shareOut_48 ?_
          refine g_mmin (d := d + 0) hX (pc := 49) hr0 ml_X1_75 (by exact Nat.le_of_ble_eq_true rfl) ⟨Nat.zero_le _, Nat.zero_le _⟩ dX1_shareOut_49 ?_
          refine g_istore hX (pc := 52) (ls' := [(0, .ref o0), (1, .ref o1), (2, .int x2), (3, .int x3), (4, .int s1), (5, .int s2), (6, .int v6), (7, .int (imin s1 v11))]) [1, 2, 3, 4, 5, 6, 7, 0] dX1_shareOut_52 (by decide) rfl ?_
          refine g_aload_n hX (pc := 54) (i := 0) dX1_shareOut_54 rfl 0 rfl ?_
          refine gf1_4 hX (pc := 55) ho0 fl_X1_25 dX1_shareOut_55 ?_
          refine g_iload hX (pc := 58) dX1_shareOut_58 6 rfl ?_
          refine g_iload_n hX (pc := 60) (i := 2) dX1_shareOut_60 rfl 2 rfl ?_
          obtain ⟨r12, e_r12, h⟩ := bnd h
          refine g_callSNi hX (pc := 61) (d := d + 0) hr0 [.int v6, .int x2] (host := RX4) (ct_X4_cell (d := d + 0)  e_r12) co_X4_cell (by decide) sta_X4_cell ini_X4 nm_X4_cell (by decide) ⟨Nat.le_refl _, Nat.le_refl _⟩ (Nat.le_refl _) (Nat.le_of_ble_eq_true rfl) rfl dX1_shareOut_61 ?_
          refine g_iload hX (pc := 64) dX1_shareOut_64 7 rfl ?_
          obtain ⟨I13, e_I13, h⟩ := bnd h
          refine g_iastoreE hX (pc := 66) (s1_4 ho0).1 (s1_4 ho0).2.1 (s1_4 ho0).2.2.1 e_I13 dX1_shareOut_66 ?_
          refine g_iload hX (pc := 67) dX1_shareOut_67 4 rfl ?_
          refine g_iload hX (pc := 69) dX1_shareOut_69 7 rfl ?_
          refine g_isub hX (pc := 71) dX1_shareOut_71 ?_
          refine g_istore hX (pc := 72) (ls' := [(0, .ref o0), (1, .ref o1), (2, .int x2), (3, .int x3), (4, .int (s1 - (imin s1 v11))), (5, .int s2), (6, .int v6), (7, .int (imin s1 v11))]) [1, 2, 3, 4, 0, 5, 6, 7] dX1_shareOut_72 (by decide) rfl ?_
          refine g_sub (ls' := [(0, .ref o0), (1, .ref o1), (2, .int x2), (3, .int x3), (4, .int (s1 - (imin s1 v11))), (5, .int s2), (6, .int v6)]) [0, 1, 2, 3, 4, 5, 6] rfl ?_
          exact Kj9 ((s1 - (imin s1 v11), I13)) (Option.some.inj h)
      · replace h := ifN c5 h
        obtain rfl := Option.some.inj h
        exact Kl4 ((s1, s2, I3)) hwl4
  exact Ll4 kl4 x3 0 I hkl4
noncomputable def b_X1_lookAtShare_9 (o0 : Nat) (o1 : Nat) (x2 : Int32) (s : Int32 × MI) : Option ((Int32 × MI) ⊕ (Int32 × MI)) :=
  if s.1 < (s.2 o1 6) then
    (f_X4_cell x2 s.1).bind fun r6 =>
    (rd 160 (s.2 (o0 + 3)) r6).bind fun v7 =>
    (if 0 < v7 then
      (rd 16 (s.2 (o0 + 7)) x2).bind fun v10 =>
      (wr 16 s.2 (o0 + 7) x2 (v10 ||| ((1 : Int32) <<< (s.1 &&& 31)))).bind fun I11 =>
      some I11
    else
      some s.2).bind fun (p12 : MI) =>
    some (.inl ((s.1 + 1, p12)))
  else
    some (.inr ((s.1, s.2)))
noncomputable def f_X1_lookAtShare (o0 : Nat) (o1 : Nat) (x2 : Int32) (I : MI) : Option (MI) :=
  (wr 16 I (o0 + 7) x2 0).bind fun I1 =>
  (lp (b_X1_lookAtShare_9 o0 o1 x2) ((0, I1))).bind fun p13 =>
  (f_X4_sumOfOrder (o0 + 3) 160 x2 p13.2).bind fun r14 =>
  (rd 16 (p13.2 (o1 + 7)) x2).bind fun v15 =>
  (if r14 = v15 then
    some 1
  else
    some 0).bind fun (p18 : Int32) =>
  (gb p18).bind fun b20 =>
  (wr 16 p13.2 (o0 + 8) x2 p18).bind fun I19 =>
  some I19
theorem nm_X1_lookAtShare : yX1_lookAtShare.cls ≠ "java/lang/invoke/MethodHandle" ∧ yX1_lookAtShare.cls ≠ "java/lang/invoke/VarHandle" ∧ (parseMethodDescriptor yX1_lookAtShare.desc).map (fun d => d.parameters.length) = some 2 := by decide +kernel
set_option maxRecDepth 100000 in
set_option maxHeartbeats 4000000 in
theorem ct_X1_lookAtShare {E : Ev} {d : Nat} {z : Sh} {J : MJ} {I : MI} {o0 : Nat} {o1 : Nat} {x2 : Int32} {Iz : MI} (ho0 : oX1 z o0) (ho1 : oX3 z o1) (h : f_X1_lookAtShare o0 o1 x2 I = some Iz) : Ct E (d + 2) yX1_lookAtShare cX1_lookAtShare 4 none 0 0 [.ref o0, .ref o1, .int x2] z J I none z J Iz := by
  unfold f_X1_lookAtShare at h
  refine Ct.of (own := RX1) (ls := [(0, .ref o0), (1, .ref o1), (2, .int x2)]) (by decide) rfl (Nat.le_of_ble_eq_true rfl) rfl ?_
  intro X hr0 hnm hX
  refine g_aload_n hX (pc := 0) (i := 0) dX1_lookAtShare_0 rfl 0 rfl ?_
  refine gf1_8 hX (pc := 1) ho0 fl_X1_37 dX1_lookAtShare_1 ?_
  refine g_iload_n hX (pc := 4) (i := 2) dX1_lookAtShare_4 rfl 2 rfl ?_
  refine g_iconst hX (pc := 5) (v := 0) dX1_lookAtShare_5 (by decide) ?_
  obtain ⟨I1, e_I1, h⟩ := bnd h
  refine g_iastoreE hX (pc := 6) (s1_8 ho0).1 (s1_8 ho0).2.1 (s1_8 ho0).2.2.1 e_I1 dX1_lookAtShare_6 ?_
  refine g_iconst hX (pc := 7) (v := 0) dX1_lookAtShare_7 (by decide) ?_
  refine g_istore_n hX (pc := 8) (i := 3) (ls' := [(0, .ref o0), (1, .ref o1), (2, .int x2), (3, .int 0)]) [1, 2, 3, 0] dX1_lookAtShare_8 rfl (by decide) rfl ?_
  obtain ⟨p13, hpl4, h⟩ := bnd h
  have Kl4 : ∀ ql4 : Int32 × MI, ql4 = p13 → GW E X (QX E X 0 0 none z J Iz) 4 48 [(0, .ref o0), (1, .ref o1), (2, .int x2), (3, .int ql4.1)] [] z J ql4.2 0 0 := by
    intro ql4 hql4
    subst hql4
    refine g_aload_n hX (pc := 48) (i := 0) dX1_lookAtShare_48 rfl 0 rfl ?_
    refine gf1_9 hX (pc := 49) ho0 fl_X1_40 dX1_lookAtShare_49 ?_
    refine g_iload_n hX (pc := 52) (i := 2) dX1_lookAtShare_52 rfl 2 rfl ?_
    refine g_aload_n hX (pc := 53) (i := 0) dX1_lookAtShare_53 rfl 0 rfl ?_
    refine gf1_4 hX (pc := 54) ho0 fl_X1_25 dX1_lookAtShare_54 ?_
    refine g_iload_n hX (pc := 57) (i := 2) dX1_lookAtShare_57 rfl 2 rfl ?_
    obtain ⟨r14, e_r14, h⟩ := bnd h
    refine g_callSNi hX (pc := 58) (d := d + 1) hr0 [.ref (o0 + 3), .int x2] (host := RX4) (ct_X4_sumOfOrder (d := d + 0) ⟨(s1_4 ho0).1, (s1_4 ho0).2.1, (s1_4 ho0).2.2.1⟩ e_r14) co_X4_sumOfOrder (by decide) sta_X4_sumOfOrder ini_X4 nm_X4_sumOfOrder (by decide) ⟨Nat.le_refl _, Nat.le_refl _⟩ (Nat.le_refl _) (Nat.le_of_ble_eq_true rfl) rfl dX1_lookAtShare_58 ?_
    refine g_aload_n hX (pc := 61) (i := 1) dX1_lookAtShare_61 rfl 1 rfl ?_
    refine gf3_14 hX (pc := 62) ho1 fl_X1_132 dX1_lookAtShare_62 ?_
    refine g_iload_n hX (pc := 65) (i := 2) dX1_lookAtShare_65 rfl 2 rfl ?_
    obtain ⟨v15, e_v15, h⟩ := bnd h
    refine g_ialoadE hX (pc := 66) (s3_14 ho1).1 (s3_14 ho1).2.1 (s3_14 ho1).2.2.1 e_v15 dX1_lookAtShare_66 ?_
    obtain ⟨p18, hpj17, h⟩ := bnd h
    have Kj17 : ∀ qj17 : Int32, qj17 = p18 → GW E X (QX E X 0 0 none z J Iz) 4 75 [(0, .ref o0), (1, .ref o1), (2, .int x2), (3, .int ql4.1)] [.int qj17, .int x2, .ref (o0 + 8)] z J ql4.2 0 0 := by
      intro qj17 hqj17
      subst hqj17
      obtain ⟨b20, e_b20, h⟩ := bnd h
      obtain ⟨I19, e_I19, h⟩ := bnd h
      refine g_zastoreE hX (pc := 75) (s1_9 ho0).1 (s1_9 ho0).2.1 (s1_9 ho0).2.2.1 e_I19 (gb_some e_b20).1 dX1_lookAtShare_75 ?_
      obtain rfl := Option.some.inj h
      exact g_return hX (Nat.le_refl _) (Nat.le_refl _) dX1_lookAtShare_76
    replace h := hpj17
    clear hpj17
    refine g_icmp_ne hX (pc := 67) dX1_lookAtShare_67 (tgt := 74) (by decide) (fun c16 => ?_) (fun c16 => ?_)
    · replace h := ifP c16 h
      refine g_iconst hX (pc := 70) (v := 1) dX1_lookAtShare_70 (by decide) ?_
      refine g_goto hX (pc := 71) (tgt := 75) dX1_lookAtShare_71 (by decide) ?_
      exact Kj17 1 (Option.some.inj h)
    · replace h := ifN c16 h
      refine g_iconst hX (pc := 74) (v := 0) dX1_lookAtShare_74 (by decide) ?_
      exact Kj17 0 (Option.some.inj h)
  obtain ⟨kl4, hkl4⟩ := lp_ex hpl4
  clear hpl4 h
  have Ll4 : ∀ k : Nat, ∀ (s2 : Int32) (I3 : MI), lpN k (b_X1_lookAtShare_9 o0 o1 x2) ((s2, I3)) = some p13 → GW E X (QX E X 0 0 none z J Iz) 4 9 [(0, .ref o0), (1, .ref o1), (2, .int x2), (3, .int s2)] [] z J I3 0 0 := by
    intro k
    induction k with
    | zero => intro s2 I3 h; cases h
    | succ k ihl4 =>
      intro s2 I3 h
      obtain ⟨wl4, h, hwl4⟩ := lpN_s h
      unfold b_X1_lookAtShare_9 at h
      try dsimp only at h
      refine g_iload_n hX (pc := 9) (i := 3) dX1_lookAtShare_9 rfl 3 rfl ?_
      refine g_aload_n hX (pc := 10) (i := 1) dX1_lookAtShare_10 rfl 1 rfl ?_
      refine gf3_6 hX (pc := 11) ho1 fl_X1_65 dX1_lookAtShare_11 ?_
      refine g_icmp_ge hX (pc := 14) dX1_lookAtShare_14 (tgt := 48) (by decide) (fun c5 => ?_) (fun c5 => ?_)
      · replace h := ifP c5 h
        refine g_aload_n hX (pc := 17) (i := 0) dX1_lookAtShare_17 rfl 0 rfl ?_
        refine gf1_4 hX (pc := 18) ho0 fl_X1_25 dX1_lookAtShare_18 ?_
        refine g_iload_n hX (pc := 21) (i := 2) dX1_lookAtShare_21 rfl 2 rfl ?_
        refine g_iload_n hX (pc := 22) (i := 3) dX1_lookAtShare_22 rfl 3 rfl ?_
        obtain ⟨r6, e_r6, h⟩ := bnd h
        refine g_callSNi hX (pc := 23) (d := d + 1) hr0 [.int x2, .int s2] (host := RX4) (ct_X4_cell (d := d + 1)  e_r6) co_X4_cell (by decide) sta_X4_cell ini_X4 nm_X4_cell (by decide) ⟨Nat.le_refl _, Nat.le_refl _⟩ (Nat.le_refl _) (Nat.le_of_ble_eq_true rfl) rfl dX1_lookAtShare_23 ?_
        obtain ⟨v7, e_v7, h⟩ := bnd h
        refine g_ialoadE hX (pc := 26) (s1_4 ho0).1 (s1_4 ho0).2.1 (s1_4 ho0).2.2.1 e_v7 dX1_lookAtShare_26 ?_
        obtain ⟨p12, hpj9, h⟩ := bnd h
        have Kj9 : ∀ qj9 : MI, qj9 = p12 → GW E X (QX E X 0 0 none z J Iz) 4 42 [(0, .ref o0), (1, .ref o1), (2, .int x2), (3, .int s2)] [] z J qj9 0 0 := by
          intro qj9 hqj9
          subst hqj9
          refine g_iinc hX (pc := 42) (i := 3) (v := s2 + 1) (ls' := [(0, .ref o0), (1, .ref o1), (2, .int x2), (3, .int (s2 + 1))]) 3 [1, 2, 3, 0] dX1_lookAtShare_42 rfl (by rfl) (by decide) rfl ?_
          refine g_goto hX (pc := 45) (tgt := 9) dX1_lookAtShare_45 (by decide) ?_
          obtain rfl := Option.some.inj h
          exact ihl4 (s2 + 1) qj9 hwl4
        replace h := hpj9
        clear hpj9
        refine g_if_le hX (pc := 27) dX1_lookAtShare_27 (tgt := 42) (by decide) (fun c8 => ?_) (fun c8 => ?_)
        · replace h := ifP c8 h
          refine g_aload_n hX (pc := 30) (i := 0) dX1_lookAtShare_30 rfl 0 rfl ?_
          refine gf1_8 hX (pc := 31) ho0 fl_X1_37 dX1_lookAtShare_31 ?_
          refine g_iload_n hX (pc := 34) (i := 2) dX1_lookAtShare_34 rfl 2 rfl ?_
          refine g_dup2 hX (pc := 35) dX1_lookAtShare_35 rfl rfl ?_
          obtain ⟨v10, e_v10, h⟩ := bnd h
          refine g_ialoadE hX (pc := 36) (s1_8 ho0).1 (s1_8 ho0).2.1 (s1_8 ho0).2.2.1 e_v10 dX1_lookAtShare_36 ?_
          refine g_iconst hX (pc := 37) (v := 1) dX1_lookAtShare_37 (by decide) ?_
          refine g_iload_n hX (pc := 38) (i := 3) dX1_lookAtShare_38 rfl 3 rfl ?_
          refine g_ishl hX (pc := 39) dX1_lookAtShare_39 ?_
          refine g_ior hX (pc := 40) dX1_lookAtShare_40 ?_
          obtain ⟨I11, e_I11, h⟩ := bnd h
          refine g_iastoreE hX (pc := 41) (s1_8 ho0).1 (s1_8 ho0).2.1 (s1_8 ho0).2.2.1 e_I11 dX1_lookAtShare_41 ?_
          exact Kj9 I11 (Option.some.inj h)
        · replace h := ifN c8 h
          exact Kj9 I3 (Option.some.inj h)
      · replace h := ifN c5 h
        obtain rfl := Option.some.inj h
        exact Kl4 ((s2, I3)) hwl4
  exact Ll4 kl4 0 I1 hkl4
