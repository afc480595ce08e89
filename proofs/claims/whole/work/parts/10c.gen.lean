noncomputable def f_J6_bitCount_0f7a4 (x0 : Int32)  : Option (Int32) :=
  (nm (((x0 - ((ushr x0 1) &&& 1431655765)) &&& 858993459) + ((ushr (x0 - ((ushr x0 1) &&& 1431655765)) 2) &&& 858993459))).bind fun v1 =>
  (nm (((v1 + (ushr v1 4)) &&& 252645135) + (ushr ((v1 + (ushr v1 4)) &&& 252645135) 8))).bind fun v2 =>
  some ((v2 + (ushr v2 16)) &&& 63)
theorem nm_J6_bitCount_0f7a4 : yJ6_bitCount_0f7a4.cls ≠ "java/lang/invoke/MethodHandle" ∧ yJ6_bitCount_0f7a4.cls ≠ "java/lang/invoke/VarHandle" ∧ (parseMethodDescriptor yJ6_bitCount_0f7a4.desc).map (fun d => d.parameters.length) = some 1 := by decide +kernel
set_option maxRecDepth 100000 in
set_option maxHeartbeats 4000000 in
theorem ct_J6_bitCount_0f7a4 {E : Ev} {d : Nat} {z : Sh} {J : MJ} {I : MI} {x0 : Int32} {rr : Int32}  (h : f_J6_bitCount_0f7a4 x0 = some rr) : Ct E (d + 0) yJ6_bitCount_0f7a4 cJ6_bitCount_0f7a4 1 (some .int) 0 0 [.int x0] z J I (some (.int rr)) z J I := by
  unfold f_J6_bitCount_0f7a4 at h
  refine Ct.of (own := RJ6) (ls := [(0, .int x0)]) (by decide) rfl (Nat.le_of_ble_eq_true rfl) rfl ?_
  intro X hr0 hnm hX
  refine g_iload_n hX (pc := 0) (i := 0) dJ6_bitCount_0f7a4_0 rfl 0 rfl ?_
  refine g_iload_n hX (pc := 1) (i := 0) dJ6_bitCount_0f7a4_1 rfl 0 rfl ?_
  refine g_iconst hX (pc := 2) (v := 1) dJ6_bitCount_0f7a4_2 (by decide) ?_
  refine g_iushr hX (pc := 3) dJ6_bitCount_0f7a4_3 ?_
  refine g_ldc_w hX (pc := 4) cst_J6_265 dJ6_bitCount_0f7a4_4 ?_
  refine g_iand hX (pc := 7) dJ6_bitCount_0f7a4_7 ?_
  refine g_isub hX (pc := 8) dJ6_bitCount_0f7a4_8 ?_
  refine g_istore_n hX (pc := 9) (i := 0) (ls' := [(0, .int (x0 - ((ushr x0 1) &&& 1431655765)))]) [0] dJ6_bitCount_0f7a4_9 rfl (by decide) rfl ?_
  refine g_iload_n hX (pc := 10) (i := 0) dJ6_bitCount_0f7a4_10 rfl 0 rfl ?_
  refine g_ldc_w hX (pc := 11) cst_J6_266 dJ6_bitCount_0f7a4_11 ?_
  refine g_iand hX (pc := 14) dJ6_bitCount_0f7a4_14 ?_
  refine g_iload_n hX (pc := 15) (i := 0) dJ6_bitCount_0f7a4_15 rfl 0 rfl ?_
  refine g_iconst hX (pc := 16) (v := 2) dJ6_bitCount_0f7a4_16 (by decide) ?_
  refine g_iushr hX (pc := 17) dJ6_bitCount_0f7a4_17 ?_
  refine g_ldc_w hX (pc := 18) cst_J6_266 dJ6_bitCount_0f7a4_18 ?_
  refine g_iand hX (pc := 21) dJ6_bitCount_0f7a4_21 ?_
  refine g_iadd hX (pc := 22) dJ6_bitCount_0f7a4_22 ?_
  obtain ⟨v1, e_v1, h⟩ := bnd h
  refine g_nmi e_v1 ?_
  refine g_istore_n hX (pc := 23) (i := 0) (ls' := [(0, .int v1)]) [0] dJ6_bitCount_0f7a4_23 rfl (by decide) rfl ?_
  refine g_iload_n hX (pc := 24) (i := 0) dJ6_bitCount_0f7a4_24 rfl 0 rfl ?_
  refine g_iload_n hX (pc := 25) (i := 0) dJ6_bitCount_0f7a4_25 rfl 0 rfl ?_
  refine g_iconst hX (pc := 26) (v := 4) dJ6_bitCount_0f7a4_26 (by decide) ?_
  refine g_iushr hX (pc := 27) dJ6_bitCount_0f7a4_27 ?_
  refine g_iadd hX (pc := 28) dJ6_bitCount_0f7a4_28 ?_
  refine g_ldc_w hX (pc := 29) cst_J6_267 dJ6_bitCount_0f7a4_29 ?_
  refine g_iand hX (pc := 32) dJ6_bitCount_0f7a4_32 ?_
  refine g_istore_n hX (pc := 33) (i := 0) (ls' := [(0, .int ((v1 + (ushr v1 4)) &&& 252645135))]) [0] dJ6_bitCount_0f7a4_33 rfl (by decide) rfl ?_
  refine g_iload_n hX (pc := 34) (i := 0) dJ6_bitCount_0f7a4_34 rfl 0 rfl ?_
  refine g_iload_n hX (pc := 35) (i := 0) dJ6_bitCount_0f7a4_35 rfl 0 rfl ?_
  refine g_bipush hX (pc := 36) (v := 8) dJ6_bitCount_0f7a4_36 (by decide) ?_
  refine g_iushr hX (pc := 38) dJ6_bitCount_0f7a4_38 ?_
  refine g_iadd hX (pc := 39) dJ6_bitCount_0f7a4_39 ?_
  obtain ⟨v2, e_v2, h⟩ := bnd h
  refine g_nmi e_v2 ?_
  refine g_istore_n hX (pc := 40) (i := 0) (ls' := [(0, .int v2)]) [0] dJ6_bitCount_0f7a4_40 rfl (by decide) rfl ?_
  refine g_iload_n hX (pc := 41) (i := 0) dJ6_bitCount_0f7a4_41 rfl 0 rfl ?_
  refine g_iload_n hX (pc := 42) (i := 0) dJ6_bitCount_0f7a4_42 rfl 0 rfl ?_
  refine g_bipush hX (pc := 43) (v := 16) dJ6_bitCount_0f7a4_43 (by decide) ?_
  refine g_iushr hX (pc := 45) dJ6_bitCount_0f7a4_45 ?_
  refine g_iadd hX (pc := 46) dJ6_bitCount_0f7a4_46 ?_
  refine g_istore_n hX (pc := 47) (i := 0) (ls' := [(0, .int (v2 + (ushr v2 16)))]) [0] dJ6_bitCount_0f7a4_47 rfl (by decide) rfl ?_
  refine g_iload_n hX (pc := 48) (i := 0) dJ6_bitCount_0f7a4_48 rfl 0 rfl ?_
  refine g_bipush hX (pc := 49) (v := 63) dJ6_bitCount_0f7a4_49 (by decide) ?_
  refine g_iand hX (pc := 51) dJ6_bitCount_0f7a4_51 ?_
  obtain rfl := Option.some.inj h
  exact g_ireturn hX (Nat.le_refl _) (Nat.le_refl _) dJ6_bitCount_0f7a4_52
noncomputable def b_J7_fill_53178_5 (o0 : Nat) (n0 : Nat) (x1 : Int32) (s : Int32 × MI) : Option ((Int32 × MI) ⊕ (Int32 × MI)) :=
  if s.1 < (Int32.ofNat n0) then
    (wr n0 s.2 o0 s.1 x1).bind fun I5 =>
    some (.inl ((s.1 + 1, I5)))
  else
    some (.inr ((s.1, s.2)))
noncomputable def f_J7_fill_53178 (o0 n0 : Nat) (x1 : Int32) (I : MI) : Option (MI) :=
  (lp (b_J7_fill_53178_5 o0 n0 x1) ((0, I))).bind fun p6 =>
  some p6.2
theorem nm_J7_fill_53178 : yJ7_fill_53178.cls ≠ "java/lang/invoke/MethodHandle" ∧ yJ7_fill_53178.cls ≠ "java/lang/invoke/VarHandle" ∧ (parseMethodDescriptor yJ7_fill_53178.desc).map (fun d => d.parameters.length) = some 2 := by decide +kernel
set_option maxRecDepth 100000 in
set_option maxHeartbeats 4000000 in
theorem ct_J7_fill_53178 {E : Ev} {d : Nat} {z : Sh} {J : MJ} {I : MI} {o0 n0 : Nat} {x1 : Int32} {Iz : MI} (ha0 : o0 ∈ zL z ∧ zK z o0 = 7 ∧ zn z o0 = n0) (h : f_J7_fill_53178 o0 n0 x1 I = some Iz) : Ct E (d + 0) yJ7_fill_53178 cJ7_fill_53178 4 none 0 0 [.ref o0, .int x1] z J I none z J Iz := by
  unfold f_J7_fill_53178 at h
  refine Ct.of (own := RJ7) (ls := [(0, .ref o0), (1, .int x1)]) (by decide) rfl (Nat.le_of_ble_eq_true rfl) rfl ?_
  intro X hr0 hnm hX
  refine g_iconst hX (pc := 0) (v := 0) dJ7_fill_53178_0 (by decide) ?_
  refine g_istore_n hX (pc := 1) (i := 2) (ls' := [(0, .ref o0), (1, .int x1), (2, .int 0)]) [1, 2, 0] dJ7_fill_53178_1 rfl (by decide) rfl ?_
  refine g_aload_n hX (pc := 2) (i := 0) dJ7_fill_53178_2 rfl 0 rfl ?_
  refine g_arraylength hX (pc := 3) (v := Int32.ofNat n0) ha0.1 ha0.2.1 ha0.2.2 (Or.inr (Or.inl rfl)) rfl dJ7_fill_53178_3 ?_
  refine g_istore_n hX (pc := 4) (i := 3) (ls' := [(0, .ref o0), (1, .int x1), (2, .int 0), (3, .int (Int32.ofNat n0))]) [1, 2, 3, 0] dJ7_fill_53178_4 rfl (by decide) rfl ?_
  obtain ⟨p6, hpl3, h⟩ := bnd h
  have Kl3 : ∀ ql3 : Int32 × MI, ql3 = p6 → GW E X (QX E X 0 0 none z J Iz) 4 20 [(0, .ref o0), (1, .int x1), (2, .int ql3.1), (3, .int (Int32.ofNat n0))] [] z J ql3.2 0 0 := by
    intro ql3 hql3
    subst hql3
    obtain rfl := Option.some.inj h
    exact g_return hX (Nat.le_refl _) (Nat.le_refl _) dJ7_fill_53178_20
  obtain ⟨kl3, hkl3⟩ := lp_ex hpl3
  clear hpl3 h
  have Ll3 : ∀ k : Nat, ∀ (s1 : Int32) (I2 : MI), lpN k (b_J7_fill_53178_5 o0 n0 x1) ((s1, I2)) = some p6 → GW E X (QX E X 0 0 none z J Iz) 4 5 [(0, .ref o0), (1, .int x1), (2, .int s1), (3, .int (Int32.ofNat n0))] [] z J I2 0 0 := by
    intro k
    induction k with
    | zero => intro s1 I2 h; cases h
    | succ k ihl3 =>
      intro s1 I2 h
      obtain ⟨wl3, h, hwl3⟩ := lpN_s h
      unfold b_J7_fill_53178_5 at h
      try dsimp only at h
      refine g_iload_n hX (pc := 5) (i := 2) dJ7_fill_53178_5 rfl 2 rfl ?_
      refine g_iload_n hX (pc := 6) (i := 3) dJ7_fill_53178_6 rfl 3 rfl ?_
      refine g_icmp_ge hX (pc := 7) dJ7_fill_53178_7 (tgt := 20) (by decide) (fun c4 => ?_) (fun c4 => ?_)
      · replace h := ifP c4 h
        refine g_aload_n hX (pc := 10) (i := 0) dJ7_fill_53178_10 rfl 0 rfl ?_
        refine g_iload_n hX (pc := 11) (i := 2) dJ7_fill_53178_11 rfl 2 rfl ?_
        refine g_iload_n hX (pc := 12) (i := 1) dJ7_fill_53178_12 rfl 1 rfl ?_
        obtain ⟨I5, e_I5, h⟩ := bnd h
        refine g_iastoreE hX (pc := 13) ha0.1 ha0.2.1 ha0.2.2 e_I5 dJ7_fill_53178_13 ?_
        refine g_iinc hX (pc := 14) (i := 2) (v := s1 + 1) (ls' := [(0, .ref o0), (1, .int x1), (2, .int (s1 + 1)), (3, .int (Int32.ofNat n0))]) 2 [1, 2, 0, 3] dJ7_fill_53178_14 rfl (by rfl) (by decide) rfl ?_
        refine g_goto hX (pc := 17) (tgt := 5) dJ7_fill_53178_17 (by decide) ?_
        obtain rfl := Option.some.inj h
        exact ihl3 (s1 + 1) I5 hwl3
      · replace h := ifN c4 h
        obtain rfl := Option.some.inj h
        exact Kl3 ((s1, I2)) hwl3
  exact Ll3 kl3 0 I hkl3
noncomputable def f_X4_feed (o0 t0 u0 : Nat) (x1 : Int32) (x2 : Int32) (x3 : Int32) (x4 : Int32) (x5 : Int32) (I : MI) : Option (Int32 × MI) :=
  if 580 < (I o0 1) then
    some (((-1), I))
  else
    (f_X4_putOnTape o0 t0 u0 x1 I).bind fun r2 =>
    (f_X4_putOnTape o0 t0 u0 x2 r2).bind fun r3 =>
    (f_X4_putOnTape o0 t0 u0 x3 r3).bind fun r4 =>
    (f_X4_putOnTape o0 t0 u0 x4 r4).bind fun r5 =>
    (f_X4_putOnTape o0 t0 u0 x5 r5).bind fun r6 =>
    some ((r6 o0 1, r6))
theorem nm_X4_feed : yX4_feed.cls ≠ "java/lang/invoke/MethodHandle" ∧ yX4_feed.cls ≠ "java/lang/invoke/VarHandle" ∧ (parseMethodDescriptor yX4_feed.desc).map (fun d => d.parameters.length) = some 5 := by decide +kernel
set_option maxRecDepth 100000 in
set_option maxHeartbeats 4000000 in
theorem ct_X4_feed {E : Ev} {d : Nat} {z : Sh} {J : MJ} {I : MI} {o0 t0 u0 : Nat} {x1 : Int32} {x2 : Int32} {x3 : Int32} {x4 : Int32} {x5 : Int32} {rr : Int32} {Iz : MI} (ho0 : oX4 z o0 t0 u0) (h : f_X4_feed o0 t0 u0 x1 x2 x3 x4 x5 I = some ((rr, Iz))) : Ct E (d + 1) yX4_feed cX4_feed 6 (some .int) 0 0 [.ref o0, .int x1, .int x2, .int x3, .int x4, .int x5] z J I (some (.int rr)) z J Iz := by
  unfold f_X4_feed at h
  refine Ct.of (own := RX4) (ls := [(0, .ref o0), (1, .int x1), (2, .int x2), (3, .int x3), (4, .int x4), (5, .int x5)]) (by decide) rfl (Nat.le_of_ble_eq_true rfl) rfl ?_
  intro X hr0 hnm hX
  refine g_aload_n hX (pc := 0) (i := 0) dX4_feed_0 rfl 0 rfl ?_
  refine gf4_1 hX (pc := 1) ho0 fl_X4_13 dX4_feed_1 ?_
  refine g_sipush hX (pc := 4) (v := 580) dX4_feed_4 (by decide) ?_
  refine g_icmp_le hX (pc := 7) dX4_feed_7 (tgt := 12) (by decide) (fun c1 => ?_) (fun c1 => ?_)
  · replace h := ifP c1 h
    refine g_iconst hX (pc := 10) (v := (-1)) dX4_feed_10 (by decide) ?_
    replace h := Option.some.inj h
    obtain ⟨rfl, rfl⟩ := Prod.mk.inj h
    exact g_ireturn hX (Nat.le_refl _) (Nat.le_refl _) dX4_feed_11
  · replace h := ifN c1 h
    refine g_aload_n hX (pc := 12) (i := 0) dX4_feed_12 rfl 0 rfl ?_
    refine g_iload_n hX (pc := 13) (i := 1) dX4_feed_13 rfl 1 rfl ?_
    obtain ⟨r2, e_r2, h⟩ := bnd h
    refine g_callVv hX (pc := 14) (d := d + 0) hr0 [.int x1] (c := 4) (ct_X4_putOnTape (d := d + 0) ho0 e_r2) ho0.1.1 ho0.1.2 (by decide) rfl co_X4_putOnTape ml_X4_68 im_X4_putOnTape sl_X4_putOnTape ini_X4 nm_X4_putOnTape (by decide) ⟨Nat.le_refl _, Nat.le_refl _⟩ (Nat.le_refl _) (Nat.le_of_ble_eq_true rfl) rfl dX4_feed_14 ?_
    refine g_aload_n hX (pc := 17) (i := 0) dX4_feed_17 rfl 0 rfl ?_
    refine g_iload_n hX (pc := 18) (i := 2) dX4_feed_18 rfl 2 rfl ?_
    obtain ⟨r3, e_r3, h⟩ := bnd h
    refine g_callVv hX (pc := 19) (d := d + 0) hr0 [.int x2] (c := 4) (ct_X4_putOnTape (d := d + 0) ho0 e_r3) ho0.1.1 ho0.1.2 (by decide) rfl co_X4_putOnTape ml_X4_68 im_X4_putOnTape sl_X4_putOnTape ini_X4 nm_X4_putOnTape (by decide) ⟨Nat.le_refl _, Nat.le_refl _⟩ (Nat.le_refl _) (Nat.le_of_ble_eq_true rfl) rfl dX4_feed_19 ?_
    refine g_aload_n hX (pc := 22) (i := 0) dX4_feed_22 rfl 0 rfl ?_
    refine g_iload_n hX (pc := 23) (i := 3) dX4_feed_23 rfl 3 rfl ?_
    obtain ⟨r4, e_r4, h⟩ := bnd h
    refine g_callVv hX (pc := 24) (d := d + 0) hr0 [.int x3] (c := 4) (ct_X4_putOnTape (d := d + 0) ho0 e_r4) ho0.1.1 ho0.1.2 (by decide) rfl co_X4_putOnTape ml_X4_68 im_X4_putOnTape sl_X4_putOnTape ini_X4 nm_X4_putOnTape (by decide) ⟨Nat.le_refl _, Nat.le_refl _⟩ (Nat.le_refl _) (Nat.le_of_ble_eq_true rfl) rfl dX4_feed_24 ?_
    refine g_aload_n hX (pc := 27) (i := 0) dX4_feed_27 rfl 0 rfl ?_
    refine g_iload hX (pc := 28) dX4_feed_28 4 rfl ?_
    obtain ⟨r5, e_r5, h⟩ := bnd h
    refine g_callVv hX (pc := 30) (d := d + 0) hr0 [.int x4] (c := 4) (ct_X4_putOnTape (d := d + 0) ho0 e_r5) ho0.1.1 ho0.1.2 (by decide) rfl co_X4_putOnTape ml_X4_68 im_X4_putOnTape sl_X4_putOnTape ini_X4 nm_X4_putOnTape (by decide) ⟨Nat.le_refl _, Nat.le_refl _⟩ (Nat.le_refl _) (Nat.le_of_ble_eq_true rfl) rfl dX4_feed_30 ?_
    refine g_aload_n hX (pc := 33) (i := 0) dX4_feed_33 rfl 0 rfl ?_
    refine g_iload hX (pc := 34) dX4_feed_34 5 rfl ?_
    obtain ⟨r6, e_r6, h⟩ := bnd h
    refine g_callVv hX (pc := 36) (d := d + 0) hr0 [.int x5] (c := 4) (ct_X4_putOnTape (d := d + 0) ho0 e_r6) ho0.1.1 ho0.1.2 (by decide) rfl co_X4_putOnTape ml_X4_68 im_X4_putOnTape sl_X4_putOnTape ini_X4 nm_X4_putOnTape (by decide) ⟨Nat.le_refl _, Nat.le_refl _⟩ (Nat.le_refl _) (Nat.le_of_ble_eq_true rfl) rfl dX4_feed_36 ?_
    refine g_aload_n hX (pc := 39) (i := 0) dX4_feed_39 rfl 0 rfl ?_
    refine gf4_1 hX (pc := 40) ho0 fl_X4_13 dX4_feed_40 ?_
    replace h := Option.some.inj h
    obtain ⟨rfl, rfl⟩ := Prod.mk.inj h
    exact g_ireturn hX (Nat.le_refl _) (Nat.le_refl _) dX4_feed_43
noncomputable def f_X4_item (o0 t0 u0 : Nat) (x1 : Int32) (x2 : Int32) (I : MI) : Option (Int32) :=
  (f_X3_isItem t0 x1 I).bind fun r1 =>
  if r1 = 0 then
    some ((-1))
  else
    if x2 = 0 then
      (rd 10 (I (t0 + 2)) x1).bind fun v4 =>
      some v4
    else
      if x2 = 1 then
        (rd 10 (I (o0 + 24 + 1)) x1).bind fun v6 =>
        some v6
      else
        if x2 = 2 then
          (f_X0_lateOfItem (o0 + 24) x1 I).bind fun r8 =>
          some r8
        else
          some ((-1))
theorem nm_X4_item : yX4_item.cls ≠ "java/lang/invoke/MethodHandle" ∧ yX4_item.cls ≠ "java/lang/invoke/VarHandle" ∧ (parseMethodDescriptor yX4_item.desc).map (fun d => d.parameters.length) = some 2 := by decide +kernel
set_option maxRecDepth 100000 in
set_option maxHeartbeats 4000000 in
theorem ct_X4_item {E : Ev} {d : Nat} {z : Sh} {J : MJ} {I : MI} {o0 t0 u0 : Nat} {x1 : Int32} {x2 : Int32} {rr : Int32} (ho0 : oX4 z o0 t0 u0) (h : f_X4_item o0 t0 u0 x1 x2 I = some rr) : Ct E (d + 2) yX4_item cX4_item 3 (some .int) 0 0 [.ref o0, .int x1, .int x2] z J I (some (.int rr)) z J I := by
  unfold f_X4_item at h
  refine Ct.of (own := RX4) (ls := [(0, .ref o0), (1, .int x1), (2, .int x2)]) (by decide) rfl (Nat.le_of_ble_eq_true rfl) rfl ?_
  intro X hr0 hnm hX
  refine g_aload_n hX (pc := 0) (i := 0) dX4_item_0 rfl 0 rfl ?_
  refine gf4_3 hX (pc := 1) ho0 fl_X4_27 dX4_item_1 ?_
  refine g_iload_n hX (pc := 4) (i := 1) dX4_item_4 rfl 1 rfl ?_
  obtain ⟨r1, e_r1, h⟩ := bnd h
  refine g_callVi hX (pc := 5) (d := d + 1) hr0 [.int x1] (c := 3) (ct_X3_isItem (d := d + 1) (s4_3 ho0).1 e_r1) (s4_3 ho0).1.1.1 (s4_3 ho0).1.1.2 (by decide) rfl co_X3_isItem ml_X4_83 im_X3_isItem sl_X3_isItem ini_X3 nm_X3_isItem (by decide) ⟨Nat.le_refl _, Nat.le_refl _⟩ (Nat.le_refl _) (Nat.le_of_ble_eq_true rfl) rfl dX4_item_5 ?_
  refine g_if_ne hX (pc := 8) dX4_item_8 (tgt := 13) (by decide) (fun c2 => ?_) (fun c2 => ?_)
  · replace h := ifP c2 h
    refine g_iconst hX (pc := 11) (v := (-1)) dX4_item_11 (by decide) ?_
    obtain rfl := Option.some.inj h
    exact g_ireturn hX (Nat.le_refl _) (Nat.le_refl _) dX4_item_12
  · replace h := ifN c2 h
    refine g_iload_n hX (pc := 13) (i := 2) dX4_item_13 rfl 2 rfl ?_
    by_cases c3 : x2 = 0
    · replace h := ifP c3 h
      refine g_tableIn hX (pc := 14) (tgt := 40) (off := 26) dX4_item_14 (by rw [c3]; decide) (by rw [c3]; decide) (by rw [c3]; rfl) (by decide) ?_
      refine g_aload_n hX (pc := 40) (i := 0) dX4_item_40 rfl 0 rfl ?_
      refine gf4_3 hX (pc := 41) ho0 fl_X4_27 dX4_item_41 ?_
      refine gf3_8 hX (pc := 44) (s4_3 ho0).1 fl_X4_87 dX4_item_44 ?_
      refine g_iload_n hX (pc := 47) (i := 1) dX4_item_47 rfl 1 rfl ?_
      obtain ⟨v4, e_v4, h⟩ := bnd h
      refine g_ialoadE hX (pc := 48) (s3_8 (s4_3 ho0).1).1 (s3_8 (s4_3 ho0).1).2.1 (s3_8 (s4_3 ho0).1).2.2.1 e_v4 dX4_item_48 ?_
      obtain rfl := Option.some.inj h
      exact g_ireturn hX (Nat.le_refl _) (Nat.le_refl _) dX4_item_49
    · replace h := ifN c3 h
      by_cases c5 : x2 = 1
      · replace h := ifP c5 h
        refine g_tableIn hX (pc := 14) (tgt := 50) (off := 36) dX4_item_14 (by rw [c5]; decide) (by rw [c5]; decide) (by rw [c5]; rfl) (by decide) ?_
        refine g_aload_n hX (pc := 50) (i := 0) dX4_item_50 rfl 0 rfl ?_
        refine gf4_5 hX (pc := 51) ho0 fl_X4_37 dX4_item_51 ?_
        refine gf0_0 hX (pc := 54) (s4_5 ho0).1 fl_X4_91 dX4_item_54 ?_
        refine g_iload_n hX (pc := 57) (i := 1) dX4_item_57 rfl 1 rfl ?_
        obtain ⟨v6, e_v6, h⟩ := bnd h
        refine g_ialoadE hX (pc := 58) (s0_0 (s4_5 ho0).1).1 (s0_0 (s4_5 ho0).1).2.1 (s0_0 (s4_5 ho0).1).2.2.1 e_v6 dX4_item_58 ?_
        obtain rfl := Option.some.inj h
        exact g_ireturn hX (Nat.le_refl _) (Nat.le_refl _) dX4_item_59
      · replace h := ifN c5 h
        by_cases c7 : x2 = 2
        · replace h := ifP c7 h
          refine g_tableIn hX (pc := 14) (tgt := 60) (off := 46) dX4_item_14 (by rw [c7]; decide) (by rw [c7]; decide) (by rw [c7]; rfl) (by decide) ?_
          refine g_aload_n hX (pc := 60) (i := 0) dX4_item_60 rfl 0 rfl ?_
          refine gf4_5 hX (pc := 61) ho0 fl_X4_37 dX4_item_61 ?_
          refine g_iload_n hX (pc := 64) (i := 1) dX4_item_64 rfl 1 rfl ?_
          obtain ⟨r8, e_r8, h⟩ := bnd h
          refine g_callVi hX (pc := 65) (d := d + 1) hr0 [.int x1] (c := 0) (ct_X0_lateOfItem (d := d + 0) (s4_5 ho0).1 e_r8) (s4_5 ho0).1.1.1 (s4_5 ho0).1.1.2 (by decide) rfl co_X0_lateOfItem ml_X4_94 im_X0_lateOfItem sl_X0_lateOfItem ini_X0 nm_X0_lateOfItem (by decide) ⟨Nat.le_refl _, Nat.le_refl _⟩ (Nat.le_refl _) (Nat.le_of_ble_eq_true rfl) rfl dX4_item_65 ?_
          obtain rfl := Option.some.inj h
          exact g_ireturn hX (Nat.le_refl _) (Nat.le_refl _) dX4_item_68
        · replace h := ifN c7 h
          refine g_tableOut hX (pc := 14) (tgt := 69) dX4_item_14 (by have q0 := lv_neT c3 (show (0 : Int32).toInt = 0 by decide); have q1 := lv_neT c5 (show (1 : Int32).toInt = 1 by decide); have q2 := lv_neT c7 (show (2 : Int32).toInt = 2 by decide); omega) (by decide) ?_
          refine g_iconst hX (pc := 69) (v := (-1)) dX4_item_69 (by decide) ?_
          obtain rfl := Option.some.inj h
          exact g_ireturn hX (Nat.le_refl _) (Nat.le_refl _) dX4_item_70
noncomputable def f_X4_units (o0 t0 u0 : Nat) (x1 : Int32) (x2 : Int32) (x3 : Int32) (I : MI) : Option (Int32) :=
  (f_X3_isOrder t0 x1 I).bind fun r1 =>
  if r1 = 0 then
    some ((-1))
  else
    (f_X3_isItem t0 x2 I).bind fun r3 =>
    if r3 = 0 then
      some ((-1))
    else
      if x3 = 0 then
        (f_X4_cell x1 x2).bind fun r6 =>
        (rd 160 (I (t0 + 6)) r6).bind fun v7 =>
        some v7
      else
        if x3 = 1 then
          (f_X4_cell x1 x2).bind fun r9 =>
          (rd 160 (I (o0 + 24 + 5)) r9).bind fun v10 =>
          some v10
        else
          if x3 = 2 then
            (f_X4_cell x1 x2).bind fun r12 =>
            (rd 160 (I (o0 + 24 + 6)) r12).bind fun v13 =>
            some v13
          else
            some ((-1))
theorem nm_X4_units : yX4_units.cls ≠ "java/lang/invoke/MethodHandle" ∧ yX4_units.cls ≠ "java/lang/invoke/VarHandle" ∧ (parseMethodDescriptor yX4_units.desc).map (fun d => d.parameters.length) = some 3 := by decide +kernel
set_option maxRecDepth 100000 in
set_option maxHeartbeats 4000000 in
theorem ct_X4_units {E : Ev} {d : Nat} {z : Sh} {J : MJ} {I : MI} {o0 t0 u0 : Nat} {x1 : Int32} {x2 : Int32} {x3 : Int32} {rr : Int32} (ho0 : oX4 z o0 t0 u0) (h : f_X4_units o0 t0 u0 x1 x2 x3 I = some rr) : Ct E (d + 1) yX4_units cX4_units 4 (some .int) 0 0 [.ref o0, .int x1, .int x2, .int x3] z J I (some (.int rr)) z J I := by
  unfold f_X4_units at h
  refine Ct.of (own := RX4) (ls := [(0, .ref o0), (1, .int x1), (2, .int x2), (3, .int x3)]) (by decide) rfl (Nat.le_of_ble_eq_true rfl) rfl ?_
  intro X hr0 hnm hX
  refine g_aload_n hX (pc := 0) (i := 0) dX4_units_0 rfl 0 rfl ?_
  refine gf4_3 hX (pc := 1) ho0 fl_X4_27 dX4_units_1 ?_
  refine g_iload_n hX (pc := 4) (i := 1) dX4_units_4 rfl 1 rfl ?_
  obtain ⟨r1, e_r1, h⟩ := bnd h
  refine g_callVi hX (pc := 5) (d := d + 0) hr0 [.int x1] (c := 3) (ct_X3_isOrder (d := d + 0) (s4_3 ho0).1 e_r1) (s4_3 ho0).1.1.1 (s4_3 ho0).1.1.2 (by decide) rfl co_X3_isOrder ml_X4_98 im_X3_isOrder sl_X3_isOrder ini_X3 nm_X3_isOrder (by decide) ⟨Nat.le_refl _, Nat.le_refl _⟩ (Nat.le_refl _) (Nat.le_of_ble_eq_true rfl) rfl dX4_units_5 ?_
  refine g_if_eq hX (pc := 8) dX4_units_8 (tgt := 22) (by decide) (fun c2 => ?_) (fun c2 => ?_)
  · replace h := ifP c2 h
    refine g_iconst hX (pc := 22) (v := (-1)) dX4_units_22 (by decide) ?_
    obtain rfl := Option.some.inj h
    exact g_ireturn hX (Nat.le_refl _) (Nat.le_refl _) dX4_units_23
  · replace h := ifN c2 h
    refine g_aload_n hX (pc := 11) (i := 0) dX4_units_11 rfl 0 rfl ?_
    refine gf4_3 hX (pc := 12) ho0 fl_X4_27 dX4_units_12 ?_
    refine g_iload_n hX (pc := 15) (i := 2) dX4_units_15 rfl 2 rfl ?_
    obtain ⟨r3, e_r3, h⟩ := bnd h
    refine g_callVi hX (pc := 16) (d := d + 0) hr0 [.int x2] (c := 3) (ct_X3_isItem (d := d + 0) (s4_3 ho0).1 e_r3) (s4_3 ho0).1.1.1 (s4_3 ho0).1.1.2 (by decide) rfl co_X3_isItem ml_X4_83 im_X3_isItem sl_X3_isItem ini_X3 nm_X3_isItem (by decide) ⟨Nat.le_refl _, Nat.le_refl _⟩ (Nat.le_refl _) (Nat.le_of_ble_eq_true rfl) rfl dX4_units_16 ?_
    refine g_if_ne hX (pc := 19) dX4_units_19 (tgt := 24) (by decide) (fun c4 => ?_) (fun c4 => ?_)
    · replace h := ifP c4 h
      refine g_iconst hX (pc := 22) (v := (-1)) dX4_units_22 (by decide) ?_
      obtain rfl := Option.some.inj h
      exact g_ireturn hX (Nat.le_refl _) (Nat.le_refl _) dX4_units_23
    · replace h := ifN c4 h
      refine g_iload_n hX (pc := 24) (i := 3) dX4_units_24 rfl 3 rfl ?_
      by_cases c5 : x3 = 0
      · replace h := ifP c5 h
        refine g_tableIn hX (pc := 25) (tgt := 52) (off := 27) dX4_units_25 (by rw [c5]; decide) (by rw [c5]; decide) (by rw [c5]; rfl) (by decide) ?_
        refine g_aload_n hX (pc := 52) (i := 0) dX4_units_52 rfl 0 rfl ?_
        refine gf4_3 hX (pc := 53) ho0 fl_X4_27 dX4_units_53 ?_
        refine gf3_13 hX (pc := 56) (s4_3 ho0).1 fl_X4_132 dX4_units_56 ?_
        refine g_iload_n hX (pc := 59) (i := 1) dX4_units_59 rfl 1 rfl ?_
        refine g_iload_n hX (pc := 60) (i := 2) dX4_units_60 rfl 2 rfl ?_
        obtain ⟨r6, e_r6, h⟩ := bnd h
        refine g_callSi hX (pc := 61) (d := d + 0) hr0 [.int x1, .int x2] (ct_X4_cell (d := d + 0)  e_r6) co_X4_cell ml_X4_135 sta_X4_cell ini_X4 nm_X4_cell (by decide) ⟨Nat.le_refl _, Nat.le_refl _⟩ (Nat.le_refl _) (Nat.le_of_ble_eq_true rfl) rfl dX4_units_61 ?_
        obtain ⟨v7, e_v7, h⟩ := bnd h
        refine g_ialoadE hX (pc := 64) (s3_13 (s4_3 ho0).1).1 (s3_13 (s4_3 ho0).1).2.1 (s3_13 (s4_3 ho0).1).2.2.1 e_v7 dX4_units_64 ?_
        obtain rfl := Option.some.inj h
        exact g_ireturn hX (Nat.le_refl _) (Nat.le_refl _) dX4_units_65
      · replace h := ifN c5 h
        by_cases c8 : x3 = 1
        · replace h := ifP c8 h
          refine g_tableIn hX (pc := 25) (tgt := 66) (off := 41) dX4_units_25 (by rw [c8]; decide) (by rw [c8]; decide) (by rw [c8]; rfl) (by decide) ?_
          refine g_aload_n hX (pc := 66) (i := 0) dX4_units_66 rfl 0 rfl ?_
          refine gf4_5 hX (pc := 67) ho0 fl_X4_37 dX4_units_67 ?_
          refine gf0_4 hX (pc := 70) (s4_5 ho0).1 fl_X4_114 dX4_units_70 ?_
          refine g_iload_n hX (pc := 73) (i := 1) dX4_units_73 rfl 1 rfl ?_
          refine g_iload_n hX (pc := 74) (i := 2) dX4_units_74 rfl 2 rfl ?_
          obtain ⟨r9, e_r9, h⟩ := bnd h
          refine g_callSi hX (pc := 75) (d := d + 0) hr0 [.int x1, .int x2] (ct_X4_cell (d := d + 0)  e_r9) co_X4_cell ml_X4_135 sta_X4_cell ini_X4 nm_X4_cell (by decide) ⟨Nat.le_refl _, Nat.le_refl _⟩ (Nat.le_refl _) (Nat.le_of_ble_eq_true rfl) rfl dX4_units_75 ?_
          obtain ⟨v10, e_v10, h⟩ := bnd h
          refine g_ialoadE hX (pc := 78) (s0_4 (s4_5 ho0).1).1 (s0_4 (s4_5 ho0).1).2.1 (s0_4 (s4_5 ho0).1).2.2.1 e_v10 dX4_units_78 ?_
          obtain rfl := Option.some.inj h
          exact g_ireturn hX (Nat.le_refl _) (Nat.le_refl _) dX4_units_79
        · replace h := ifN c8 h
          by_cases c11 : x3 = 2
          · replace h := ifP c11 h
            refine g_tableIn hX (pc := 25) (tgt := 80) (off := 55) dX4_units_25 (by rw [c11]; decide) (by rw [c11]; decide) (by rw [c11]; rfl) (by decide) ?_
            refine g_aload_n hX (pc := 80) (i := 0) dX4_units_80 rfl 0 rfl ?_
            refine gf4_5 hX (pc := 81) ho0 fl_X4_37 dX4_units_81 ?_
            refine gf0_5 hX (pc := 84) (s4_5 ho0).1 fl_X4_121 dX4_units_84 ?_
            refine g_iload_n hX (pc := 87) (i := 1) dX4_units_87 rfl 1 rfl ?_
            refine g_iload_n hX (pc := 88) (i := 2) dX4_units_88 rfl 2 rfl ?_
            obtain ⟨r12, e_r12, h⟩ := bnd h
            refine g_callSi hX (pc := 89) (d := d + 0) hr0 [.int x1, .int x2] (ct_X4_cell (d := d + 0)  e_r12) co_X4_cell ml_X4_135 sta_X4_cell ini_X4 nm_X4_cell (by decide) ⟨Nat.le_refl _, Nat.le_refl _⟩ (Nat.le_refl _) (Nat.le_of_ble_eq_true rfl) rfl dX4_units_89 ?_
            obtain ⟨v13, e_v13, h⟩ := bnd h
            refine g_ialoadE hX (pc := 92) (s0_5 (s4_5 ho0).1).1 (s0_5 (s4_5 ho0).1).2.1 (s0_5 (s4_5 ho0).1).2.2.1 e_v13 dX4_units_92 ?_
            obtain rfl := Option.some.inj h
            exact g_ireturn hX (Nat.le_refl _) (Nat.le_refl _) dX4_units_93
          · replace h := ifN c11 h
            refine g_tableOut hX (pc := 25) (tgt := 94) dX4_units_25 (by have q0 := lv_neT c5 (show (0 : Int32).toInt = 0 by decide); have q1 := lv_neT c8 (show (1 : Int32).toInt = 1 by decide); have q2 := lv_neT c11 (show (2 : Int32).toInt = 2 by decide); omega) (by decide) ?_
            refine g_iconst hX (pc := 94) (v := (-1)) dX4_units_94 (by decide) ?_
            obtain rfl := Option.some.inj h
            exact g_ireturn hX (Nat.le_refl _) (Nat.le_refl _) dX4_units_95
noncomputable def f_X4_alike (o0 t0 u0 : Nat) (x1 : Int32) (x2 : Int32) (I : MI) : Option (Int32) :=
  (f_X3_isOrder t0 x1 I).bind fun r1 =>
  if r1 = 0 then
    some ((-1))
  else
    (f_X3_isOrder t0 x2 I).bind fun r3 =>
    if r3 = 0 then
      some ((-1))
    else
      (rd 16 (I (t0 + 8)) x1).bind fun v5 =>
      (rd 16 (I (t0 + 8)) x2).bind fun v6 =>
      (f_J6_bitCount_0f7a4 (v5 &&& v6)).bind fun r7 =>
      some r7
theorem nm_X4_alike : yX4_alike.cls ≠ "java/lang/invoke/MethodHandle" ∧ yX4_alike.cls ≠ "java/lang/invoke/VarHandle" ∧ (parseMethodDescriptor yX4_alike.desc).map (fun d => d.parameters.length) = some 2 := by decide +kernel
set_option maxRecDepth 100000 in
set_option maxHeartbeats 4000000 in
theorem ct_X4_alike {E : Ev} {d : Nat} {z : Sh} {J : MJ} {I : MI} {o0 t0 u0 : Nat} {x1 : Int32} {x2 : Int32} {rr : Int32} (ho0 : oX4 z o0 t0 u0) (h : f_X4_alike o0 t0 u0 x1 x2 I = some rr) : Ct E (d + 1) yX4_alike cX4_alike 3 (some .int) 0 0 [.ref o0, .int x1, .int x2] z J I (some (.int rr)) z J I := by
  unfold f_X4_alike at h
  refine Ct.of (own := RX4) (ls := [(0, .ref o0), (1, .int x1), (2, .int x2)]) (by decide) rfl (Nat.le_of_ble_eq_true rfl) rfl ?_
  intro X hr0 hnm hX
  refine g_aload_n hX (pc := 0) (i := 0) dX4_alike_0 rfl 0 rfl ?_
  refine gf4_3 hX (pc := 1) ho0 fl_X4_27 dX4_alike_1 ?_
  refine g_iload_n hX (pc := 4) (i := 1) dX4_alike_4 rfl 1 rfl ?_
  obtain ⟨r1, e_r1, h⟩ := bnd h
  refine g_callVi hX (pc := 5) (d := d + 0) hr0 [.int x1] (c := 3) (ct_X3_isOrder (d := d + 0) (s4_3 ho0).1 e_r1) (s4_3 ho0).1.1.1 (s4_3 ho0).1.1.2 (by decide) rfl co_X3_isOrder ml_X4_98 im_X3_isOrder sl_X3_isOrder ini_X3 nm_X3_isOrder (by decide) ⟨Nat.le_refl _, Nat.le_refl _⟩ (Nat.le_refl _) (Nat.le_of_ble_eq_true rfl) rfl dX4_alike_5 ?_
  refine g_if_eq hX (pc := 8) dX4_alike_8 (tgt := 22) (by decide) (fun c2 => ?_) (fun c2 => ?_)
  · replace h := ifP c2 h
    refine g_iconst hX (pc := 22) (v := (-1)) dX4_alike_22 (by decide) ?_
    obtain rfl := Option.some.inj h
    exact g_ireturn hX (Nat.le_refl _) (Nat.le_refl _) dX4_alike_23
  · replace h := ifN c2 h
    refine g_aload_n hX (pc := 11) (i := 0) dX4_alike_11 rfl 0 rfl ?_
    refine gf4_3 hX (pc := 12) ho0 fl_X4_27 dX4_alike_12 ?_
    refine g_iload_n hX (pc := 15) (i := 2) dX4_alike_15 rfl 2 rfl ?_
    obtain ⟨r3, e_r3, h⟩ := bnd h
    refine g_callVi hX (pc := 16) (d := d + 0) hr0 [.int x2] (c := 3) (ct_X3_isOrder (d := d + 0) (s4_3 ho0).1 e_r3) (s4_3 ho0).1.1.1 (s4_3 ho0).1.1.2 (by decide) rfl co_X3_isOrder ml_X4_98 im_X3_isOrder sl_X3_isOrder ini_X3 nm_X3_isOrder (by decide) ⟨Nat.le_refl _, Nat.le_refl _⟩ (Nat.le_refl _) (Nat.le_of_ble_eq_true rfl) rfl dX4_alike_16 ?_
    refine g_if_ne hX (pc := 19) dX4_alike_19 (tgt := 24) (by decide) (fun c4 => ?_) (fun c4 => ?_)
    · replace h := ifP c4 h
      refine g_iconst hX (pc := 22) (v := (-1)) dX4_alike_22 (by decide) ?_
      obtain rfl := Option.some.inj h
      exact g_ireturn hX (Nat.le_refl _) (Nat.le_refl _) dX4_alike_23
    · replace h := ifN c4 h
      refine g_aload_n hX (pc := 24) (i := 0) dX4_alike_24 rfl 0 rfl ?_
      refine gf4_3 hX (pc := 25) ho0 fl_X4_27 dX4_alike_25 ?_
      refine gf3_15 hX (pc := 28) (s4_3 ho0).1 fl_X4_139 dX4_alike_28 ?_
      refine g_iload_n hX (pc := 31) (i := 1) dX4_alike_31 rfl 1 rfl ?_
      obtain ⟨v5, e_v5, h⟩ := bnd h
      refine g_ialoadE hX (pc := 32) (s3_15 (s4_3 ho0).1).1 (s3_15 (s4_3 ho0).1).2.1 (s3_15 (s4_3 ho0).1).2.2.1 e_v5 dX4_alike_32 ?_
      refine g_aload_n hX (pc := 33) (i := 0) dX4_alike_33 rfl 0 rfl ?_
      refine gf4_3 hX (pc := 34) ho0 fl_X4_27 dX4_alike_34 ?_
      refine gf3_15 hX (pc := 37) (s4_3 ho0).1 fl_X4_139 dX4_alike_37 ?_
      refine g_iload_n hX (pc := 40) (i := 2) dX4_alike_40 rfl 2 rfl ?_
      obtain ⟨v6, e_v6, h⟩ := bnd h
      refine g_ialoadE hX (pc := 41) (s3_15 (s4_3 ho0).1).1 (s3_15 (s4_3 ho0).1).2.1 (s3_15 (s4_3 ho0).1).2.2.1 e_v6 dX4_alike_41 ?_
      refine g_iand hX (pc := 42) dX4_alike_42 ?_
      obtain ⟨r7, e_r7, h⟩ := bnd h
      refine g_callSi hX (pc := 43) (d := d + 0) hr0 [.int (v5 &&& v6)] (ct_J6_bitCount_0f7a4 (d := d + 0)  e_r7) co_J6_bitCount_0f7a4 ml_X4_142 sta_J6_bitCount_0f7a4 ini_J6 nm_J6_bitCount_0f7a4 (by decide) ⟨Nat.le_refl _, Nat.le_refl _⟩ (Nat.le_refl _) (Nat.le_of_ble_eq_true rfl) rfl dX4_alike_43 ?_
      obtain rfl := Option.some.inj h
      exact g_ireturn hX (Nat.le_refl _) (Nat.le_refl _) dX4_alike_46
noncomputable def f_X4_belt (o0 t0 u0 : Nat) (x1 : Int32) (x2 : Int32) (I : MI) : Option (Int32) :=
  if x1 = ((-1)) then
    (f_X0_onBelt (o0 + 24) I).bind fun r2 =>
    some r2
  else
    if x1 < 0 then
      some ((-2))
    else
      (f_X0_onBelt (o0 + 24) I).bind fun r4 =>
      if x1 < r4 then
        (rd 864 (I (o0 + 24 + 8)) ((I (o0 + 24) 9) + x1)).bind fun v6 =>
        (f_X4_partOfUnit v6 x2).bind fun r7 =>
        some r7
      else
        some ((-2))
theorem nm_X4_belt : yX4_belt.cls ≠ "java/lang/invoke/MethodHandle" ∧ yX4_belt.cls ≠ "java/lang/invoke/VarHandle" ∧ (parseMethodDescriptor yX4_belt.desc).map (fun d => d.parameters.length) = some 2 := by decide +kernel
set_option maxRecDepth 100000 in
set_option maxHeartbeats 4000000 in
theorem ct_X4_belt {E : Ev} {d : Nat} {z : Sh} {J : MJ} {I : MI} {o0 t0 u0 : Nat} {x1 : Int32} {x2 : Int32} {rr : Int32} (ho0 : oX4 z o0 t0 u0) (h : f_X4_belt o0 t0 u0 x1 x2 I = some rr) : Ct E (d + 2) yX4_belt cX4_belt 3 (some .int) 0 0 [.ref o0, .int x1, .int x2] z J I (some (.int rr)) z J I := by
  unfold f_X4_belt at h
  refine Ct.of (own := RX4) (ls := [(0, .ref o0), (1, .int x1), (2, .int x2)]) (by decide) rfl (Nat.le_of_ble_eq_true rfl) rfl ?_
  intro X hr0 hnm hX
  refine g_iload_n hX (pc := 0) (i := 1) dX4_belt_0 rfl 1 rfl ?_
  refine g_iconst hX (pc := 1) (v := (-1)) dX4_belt_1 (by decide) ?_
  refine g_icmp_ne hX (pc := 2) dX4_belt_2 (tgt := 13) (by decide) (fun c1 => ?_) (fun c1 => ?_)
  · replace h := ifP c1 h
    refine g_aload_n hX (pc := 5) (i := 0) dX4_belt_5 rfl 0 rfl ?_
    refine gf4_5 hX (pc := 6) ho0 fl_X4_37 dX4_belt_6 ?_
    obtain ⟨r2, e_r2, h⟩ := bnd h
    refine g_callVi hX (pc := 9) (d := d + 1) hr0 [] (c := 0) (ct_X0_onBelt (d := d + 1) (s4_5 ho0).1 e_r2) (s4_5 ho0).1.1.1 (s4_5 ho0).1.1.2 (by decide) rfl co_X0_onBelt ml_X4_179 im_X0_onBelt sl_X0_onBelt ini_X0 nm_X0_onBelt (by decide) ⟨Nat.le_refl _, Nat.le_refl _⟩ (Nat.le_refl _) (Nat.le_of_ble_eq_true rfl) rfl dX4_belt_9 ?_
    obtain rfl := Option.some.inj h
    exact g_ireturn hX (Nat.le_refl _) (Nat.le_refl _) dX4_belt_12
  · replace h := ifN c1 h
    refine g_iload_n hX (pc := 13) (i := 1) dX4_belt_13 rfl 1 rfl ?_
    refine g_if_lt hX (pc := 14) dX4_belt_14 (tgt := 28) (by decide) (fun c3 => ?_) (fun c3 => ?_)
    · replace h := ifP c3 h
      refine g_bipush hX (pc := 28) (v := (-2)) dX4_belt_28 (by decide) ?_
      obtain rfl := Option.some.inj h
      exact g_ireturn hX (Nat.le_refl _) (Nat.le_refl _) dX4_belt_30
    · replace h := ifN c3 h
      refine g_iload_n hX (pc := 17) (i := 1) dX4_belt_17 rfl 1 rfl ?_
      refine g_aload_n hX (pc := 18) (i := 0) dX4_belt_18 rfl 0 rfl ?_
      refine gf4_5 hX (pc := 19) ho0 fl_X4_37 dX4_belt_19 ?_
      obtain ⟨r4, e_r4, h⟩ := bnd h
      refine g_callVi hX (pc := 22) (d := d + 1) hr0 [] (c := 0) (ct_X0_onBelt (d := d + 1) (s4_5 ho0).1 e_r4) (s4_5 ho0).1.1.1 (s4_5 ho0).1.1.2 (by decide) rfl co_X0_onBelt ml_X4_179 im_X0_onBelt sl_X0_onBelt ini_X0 nm_X0_onBelt (by decide) ⟨Nat.le_refl _, Nat.le_refl _⟩ (Nat.le_refl _) (Nat.le_of_ble_eq_true rfl) rfl dX4_belt_22 ?_
      refine g_icmp_lt hX (pc := 25) dX4_belt_25 (tgt := 31) (by decide) (fun c5 => ?_) (fun c5 => ?_)
      · replace h := ifP c5 h
        refine g_aload_n hX (pc := 31) (i := 0) dX4_belt_31 rfl 0 rfl ?_
        refine gf4_5 hX (pc := 32) ho0 fl_X4_37 dX4_belt_32 ?_
        refine gf0_8 hX (pc := 35) (s4_5 ho0).1 fl_X4_194 dX4_belt_35 ?_
        refine g_aload_n hX (pc := 38) (i := 0) dX4_belt_38 rfl 0 rfl ?_
        refine gf4_5 hX (pc := 39) ho0 fl_X4_37 dX4_belt_39 ?_
        refine gf0_9 hX (pc := 42) (s4_5 ho0).1 fl_X4_197 dX4_belt_42 ?_
        refine g_iload_n hX (pc := 45) (i := 1) dX4_belt_45 rfl 1 rfl ?_
        refine g_iadd hX (pc := 46) dX4_belt_46 ?_
        obtain ⟨v6, e_v6, h⟩ := bnd h
        refine g_ialoadE hX (pc := 47) (s0_8 (s4_5 ho0).1).1 (s0_8 (s4_5 ho0).1).2.1 (s0_8 (s4_5 ho0).1).2.2.1 e_v6 dX4_belt_47 ?_
        refine g_iload_n hX (pc := 48) (i := 2) dX4_belt_48 rfl 2 rfl ?_
        obtain ⟨r7, e_r7, h⟩ := bnd h
        refine g_callSi hX (pc := 49) (d := d + 1) hr0 [.int v6, .int x2] (ct_X4_partOfUnit (d := d + 0)  e_r7) co_X4_partOfUnit ml_X4_200 sta_X4_partOfUnit ini_X4 nm_X4_partOfUnit (by decide) ⟨Nat.le_refl _, Nat.le_refl _⟩ (Nat.le_refl _) (Nat.le_of_ble_eq_true rfl) rfl dX4_belt_49 ?_
        obtain rfl := Option.some.inj h
        exact g_ireturn hX (Nat.le_refl _) (Nat.le_refl _) dX4_belt_52
      · replace h := ifN c5 h
        refine g_bipush hX (pc := 28) (v := (-2)) dX4_belt_28 (by decide) ?_
        obtain rfl := Option.some.inj h
        exact g_ireturn hX (Nat.le_refl _) (Nat.le_refl _) dX4_belt_30
noncomputable def f_X4_aside (o0 t0 u0 : Nat) (x1 : Int32) (x2 : Int32) (I : MI) : Option (Int32) :=
  if x1 = ((-1)) then
    some (I (o0 + 24) 12)
  else
    if x1 < 0 then
      some ((-2))
    else
      if x1 < (I (o0 + 24) 12) then
        (rd 864 (I (o0 + 24 + 9)) x1).bind fun v4 =>
        (f_X4_partOfUnit v4 x2).bind fun r5 =>
        some r5
      else
        some ((-2))
theorem nm_X4_aside : yX4_aside.cls ≠ "java/lang/invoke/MethodHandle" ∧ yX4_aside.cls ≠ "java/lang/invoke/VarHandle" ∧ (parseMethodDescriptor yX4_aside.desc).map (fun d => d.parameters.length) = some 2 := by decide +kernel
set_option maxRecDepth 100000 in
set_option maxHeartbeats 4000000 in
theorem ct_X4_aside {E : Ev} {d : Nat} {z : Sh} {J : MJ} {I : MI} {o0 t0 u0 : Nat} {x1 : Int32} {x2 : Int32} {rr : Int32} (ho0 : oX4 z o0 t0 u0) (h : f_X4_aside o0 t0 u0 x1 x2 I = some rr) : Ct E (d + 2) yX4_aside cX4_aside 3 (some .int) 0 0 [.ref o0, .int x1, .int x2] z J I (some (.int rr)) z J I := by
  unfold f_X4_aside at h
  refine Ct.of (own := RX4) (ls := [(0, .ref o0), (1, .int x1), (2, .int x2)]) (by decide) rfl (Nat.le_of_ble_eq_true rfl) rfl ?_
  intro X hr0 hnm hX
  refine g_iload_n hX (pc := 0) (i := 1) dX4_aside_0 rfl 1 rfl ?_
  refine g_iconst hX (pc := 1) (v := (-1)) dX4_aside_1 (by decide) ?_
  refine g_icmp_ne hX (pc := 2) dX4_aside_2 (tgt := 13) (by decide) (fun c1 => ?_) (fun c1 => ?_)
  · replace h := ifP c1 h
    refine g_aload_n hX (pc := 5) (i := 0) dX4_aside_5 rfl 0 rfl ?_
    refine gf4_5 hX (pc := 6) ho0 fl_X4_37 dX4_aside_6 ?_
    refine gf0_12 hX (pc := 9) (s4_5 ho0).1 fl_X4_203 dX4_aside_9 ?_
    obtain rfl := Option.some.inj h
    exact g_ireturn hX (Nat.le_refl _) (Nat.le_refl _) dX4_aside_12
  · replace h := ifN c1 h
    refine g_iload_n hX (pc := 13) (i := 1) dX4_aside_13 rfl 1 rfl ?_
    refine g_if_lt hX (pc := 14) dX4_aside_14 (tgt := 28) (by decide) (fun c2 => ?_) (fun c2 => ?_)
    · replace h := ifP c2 h
      refine g_bipush hX (pc := 28) (v := (-2)) dX4_aside_28 (by decide) ?_
      obtain rfl := Option.some.inj h
      exact g_ireturn hX (Nat.le_refl _) (Nat.le_refl _) dX4_aside_30
    · replace h := ifN c2 h
      refine g_iload_n hX (pc := 17) (i := 1) dX4_aside_17 rfl 1 rfl ?_
      refine g_aload_n hX (pc := 18) (i := 0) dX4_aside_18 rfl 0 rfl ?_
      refine gf4_5 hX (pc := 19) ho0 fl_X4_37 dX4_aside_19 ?_
      refine gf0_12 hX (pc := 22) (s4_5 ho0).1 fl_X4_203 dX4_aside_22 ?_
      refine g_icmp_lt hX (pc := 25) dX4_aside_25 (tgt := 31) (by decide) (fun c3 => ?_) (fun c3 => ?_)
      · replace h := ifP c3 h
        refine g_aload_n hX (pc := 31) (i := 0) dX4_aside_31 rfl 0 rfl ?_
        refine gf4_5 hX (pc := 32) ho0 fl_X4_37 dX4_aside_32 ?_
        refine gf0_11 hX (pc := 35) (s4_5 ho0).1 fl_X4_206 dX4_aside_35 ?_
        refine g_iload_n hX (pc := 38) (i := 1) dX4_aside_38 rfl 1 rfl ?_
        obtain ⟨v4, e_v4, h⟩ := bnd h
        refine g_ialoadE hX (pc := 39) (s0_11 (s4_5 ho0).1).1 (s0_11 (s4_5 ho0).1).2.1 (s0_11 (s4_5 ho0).1).2.2.1 e_v4 dX4_aside_39 ?_
        refine g_iload_n hX (pc := 40) (i := 2) dX4_aside_40 rfl 2 rfl ?_
        obtain ⟨r5, e_r5, h⟩ := bnd h
        refine g_callSi hX (pc := 41) (d := d + 1) hr0 [.int v4, .int x2] (ct_X4_partOfUnit (d := d + 0)  e_r5) co_X4_partOfUnit ml_X4_200 sta_X4_partOfUnit ini_X4 nm_X4_partOfUnit (by decide) ⟨Nat.le_refl _, Nat.le_refl _⟩ (Nat.le_refl _) (Nat.le_of_ble_eq_true rfl) rfl dX4_aside_41 ?_
        obtain rfl := Option.some.inj h
        exact g_ireturn hX (Nat.le_refl _) (Nat.le_refl _) dX4_aside_44
      · replace h := ifN c3 h
        refine g_bipush hX (pc := 28) (v := (-2)) dX4_aside_28 (by decide) ?_
        obtain rfl := Option.some.inj h
        exact g_ireturn hX (Nat.le_refl _) (Nat.le_refl _) dX4_aside_30
noncomputable def b_X4_stuck_4 (o0 : Nat) (t0 : Nat) (I : MI) (s : Int32 × Int32) : Option ((Int32 × Int32) ⊕ (Int32 × Int32)) :=
  if s.2 < (I t0 10) then
    (f_X0_isStuck (o0 + 24) t0 s.2 I).bind fun r5 =>
    (if r5 = 0 then
      some s.1
    else
      some (s.1 ||| ((1 : Int32) <<< (s.2 &&& 31)))).bind fun (p8 : Int32) =>
    some (.inl ((p8, s.2 + 1)))
  else
    some (.inr ((s.1, s.2)))
noncomputable def f_X4_stuck (o0 t0 u0 : Nat) (I : MI) : Option (Int32) :=
  (lp (b_X4_stuck_4 o0 t0 I) ((0, 0))).bind fun p9 =>
  some p9.1
theorem nm_X4_stuck : yX4_stuck.cls ≠ "java/lang/invoke/MethodHandle" ∧ yX4_stuck.cls ≠ "java/lang/invoke/VarHandle" ∧ (parseMethodDescriptor yX4_stuck.desc).map (fun d => d.parameters.length) = some 0 := by decide +kernel
set_option maxRecDepth 100000 in
set_option maxHeartbeats 4000000 in
theorem ct_X4_stuck {E : Ev} {d : Nat} {z : Sh} {J : MJ} {I : MI} {o0 t0 u0 : Nat} {rr : Int32} (ho0 : oX4 z o0 t0 u0) (h : f_X4_stuck o0 t0 u0 I = some rr) : Ct E (d + 3) yX4_stuck cX4_stuck 3 (some .int) 0 0 [.ref o0] z J I (some (.int rr)) z J I := by
  unfold f_X4_stuck at h
  refine Ct.of (own := RX4) (ls := [(0, .ref o0)]) (by decide) rfl (Nat.le_of_ble_eq_true rfl) rfl ?_
  intro X hr0 hnm hX
  refine g_iconst hX (pc := 0) (v := 0) dX4_stuck_0 (by decide) ?_
  refine g_istore_n hX (pc := 1) (i := 1) (ls' := [(0, .ref o0), (1, .int 0)]) [1, 0] dX4_stuck_1 rfl (by decide) rfl ?_
  refine g_iconst hX (pc := 2) (v := 0) dX4_stuck_2 (by decide) ?_
  refine g_istore_n hX (pc := 3) (i := 2) (ls' := [(0, .ref o0), (1, .int 0), (2, .int 0)]) [1, 2, 0] dX4_stuck_3 rfl (by decide) rfl ?_
  obtain ⟨p9, hpl3, h⟩ := bnd h
  have Kl3 : ∀ ql3 : Int32 × Int32, ql3 = p9 → GW E X (QX E X 0 0 (some (.int rr)) z J I) 3 42 [(0, .ref o0), (1, .int ql3.1), (2, .int ql3.2)] [] z J I 0 0 := by
    intro ql3 hql3
    subst hql3
    refine g_iload_n hX (pc := 42) (i := 1) dX4_stuck_42 rfl 1 rfl ?_
    obtain rfl := Option.some.inj h
    exact g_ireturn hX (Nat.le_refl _) (Nat.le_refl _) dX4_stuck_43
  obtain ⟨kl3, hkl3⟩ := lp_ex hpl3
  clear hpl3 h
  have Ll3 : ∀ k : Nat, ∀ (s1 : Int32) (s2 : Int32), lpN k (b_X4_stuck_4 o0 t0 I) ((s1, s2)) = some p9 → GW E X (QX E X 0 0 (some (.int rr)) z J I) 3 4 [(0, .ref o0), (1, .int s1), (2, .int s2)] [] z J I 0 0 := by
    intro k
    induction k with
    | zero => intro s1 s2 h; cases h
    | succ k ihl3 =>
      intro s1 s2 h
      obtain ⟨wl3, h, hwl3⟩ := lpN_s h
      unfold b_X4_stuck_4 at h
      try dsimp only at h
      refine g_iload_n hX (pc := 4) (i := 2) dX4_stuck_4 rfl 2 rfl ?_
      refine g_aload_n hX (pc := 5) (i := 0) dX4_stuck_5 rfl 0 rfl ?_
      refine gf4_3 hX (pc := 6) ho0 fl_X4_27 dX4_stuck_6 ?_
      refine gf3_10 hX (pc := 9) (s4_3 ho0).1 fl_X4_221 dX4_stuck_9 ?_
      refine g_icmp_ge hX (pc := 12) dX4_stuck_12 (tgt := 42) (by decide) (fun c4 => ?_) (fun c4 => ?_)
      · replace h := ifP c4 h
        refine g_aload_n hX (pc := 15) (i := 0) dX4_stuck_15 rfl 0 rfl ?_
        refine gf4_5 hX (pc := 16) ho0 fl_X4_37 dX4_stuck_16 ?_
        refine g_aload_n hX (pc := 19) (i := 0) dX4_stuck_19 rfl 0 rfl ?_
        refine gf4_3 hX (pc := 20) ho0 fl_X4_27 dX4_stuck_20 ?_
        refine g_iload_n hX (pc := 23) (i := 2) dX4_stuck_23 rfl 2 rfl ?_
        obtain ⟨r5, e_r5, h⟩ := bnd h
        refine g_callVi hX (pc := 24) (d := d + 2) hr0 [.ref t0, .int s2] (c := 0) (ct_X0_isStuck (d := d + 0) (s4_5 ho0).1 (s4_3 ho0).1 e_r5) (s4_5 ho0).1.1.1 (s4_5 ho0).1.1.2 (by decide) rfl co_X0_isStuck ml_X4_222 im_X0_isStuck sl_X0_isStuck ini_X0 nm_X0_isStuck (by decide) ⟨Nat.le_refl _, Nat.le_refl _⟩ (Nat.le_refl _) (Nat.le_of_ble_eq_true rfl) rfl dX4_stuck_24 ?_
        obtain ⟨p8, hpj7, h⟩ := bnd h
        have Kj7 : ∀ qj7 : Int32, qj7 = p8 → GW E X (QX E X 0 0 (some (.int rr)) z J I) 3 36 [(0, .ref o0), (1, .int qj7), (2, .int s2)] [] z J I 0 0 := by
          intro qj7 hqj7
          subst hqj7
          refine g_iinc hX (pc := 36) (i := 2) (v := s2 + 1) (ls' := [(0, .ref o0), (1, .int qj7), (2, .int (s2 + 1))]) 2 [1, 2, 0] dX4_stuck_36 rfl (by rfl) (by decide) rfl ?_
          refine g_goto hX (pc := 39) (tgt := 4) dX4_stuck_39 (by decide) ?_
          obtain rfl := Option.some.inj h
          exact ihl3 qj7 (s2 + 1) hwl3
        replace h := hpj7
        clear hpj7
        refine g_if_eq hX (pc := 27) dX4_stuck_27 (tgt := 36) (by decide) (fun c6 => ?_) (fun c6 => ?_)
        · replace h := ifP c6 h
          exact Kj7 s1 (Option.some.inj h)
        · replace h := ifN c6 h
          refine g_iload_n hX (pc := 30) (i := 1) dX4_stuck_30 rfl 1 rfl ?_
          refine g_iconst hX (pc := 31) (v := 1) dX4_stuck_31 (by decide) ?_
          refine g_iload_n hX (pc := 32) (i := 2) dX4_stuck_32 rfl 2 rfl ?_
          refine g_ishl hX (pc := 33) dX4_stuck_33 ?_
          refine g_ior hX (pc := 34) dX4_stuck_34 ?_
          refine g_istore_n hX (pc := 35) (i := 1) (ls' := [(0, .ref o0), (1, .int (s1 ||| ((1 : Int32) <<< (s2 &&& 31)))), (2, .int s2)]) [1, 0, 2] dX4_stuck_35 rfl (by decide) rfl ?_
          exact Kj7 (s1 ||| ((1 : Int32) <<< (s2 &&& 31))) (Option.some.inj h)
      · replace h := ifN c4 h
        obtain rfl := Option.some.inj h
        exact Kl3 ((s1, s2)) hwl3
  exact Ll3 kl3 0 0 hkl3
noncomputable def f_X4_undo (o0 t0 u0 : Nat) (z : Sh) (I : MI) : Option (Int32 × MI) :=
  if (I o0 9) = 0 then
    some (((-1), I))
  else
    (wf I o0 8 ((((I o0 8) + 12) - 1) - (((I o0 8) + 12) - 1) / 12 * 12)).bind fun I2 =>
    (rd 12 (zR z (o0 + 43)) (I2 o0 8)).bind fun q3 =>
    oc q3 (
      (wf I2 o0 9 ((I2 o0 9) - 1)).bind fun I4 =>
      some ((I4 o0 9, I4))) (fun a5 =>
      (gd (oX0 z a5)).bind fun g6 =>
      (f_X0_copyFrom (o0 + 24) a5 I2).bind fun r7 =>
      (wf r7 o0 9 ((r7 o0 9) - 1)).bind fun I8 =>
      some ((I8 o0 9, I8)))
theorem nm_X4_undo : yX4_undo.cls ≠ "java/lang/invoke/MethodHandle" ∧ yX4_undo.cls ≠ "java/lang/invoke/VarHandle" ∧ (parseMethodDescriptor yX4_undo.desc).map (fun d => d.parameters.length) = some 0 := by decide +kernel
set_option maxRecDepth 100000 in
set_option maxHeartbeats 4000000 in
theorem ct_X4_undo {E : Ev} {d : Nat} {z : Sh} {J : MJ} {I : MI} {o0 t0 u0 : Nat} {rr : Int32} {Iz : MI} (ho0 : oX4 z o0 t0 u0) (h : f_X4_undo o0 t0 u0 z I = some ((rr, Iz))) : Ct E (d + 2) yX4_undo cX4_undo 2 (some .int) 0 0 [.ref o0] z J I (some (.int rr)) z J Iz := by
  unfold f_X4_undo at h
  refine Ct.of (own := RX4) (ls := [(0, .ref o0)]) (by decide) rfl (Nat.le_of_ble_eq_true rfl) rfl ?_
  intro X hr0 hnm hX
  refine g_aload_n hX (pc := 0) (i := 0) dX4_undo_0 rfl 0 rfl ?_
  refine gf4_9 hX (pc := 1) ho0 fl_X4_55 dX4_undo_1 ?_
  refine g_if_ne hX (pc := 4) dX4_undo_4 (tgt := 9) (by decide) (fun c1 => ?_) (fun c1 => ?_)
  · replace h := ifP c1 h
    refine g_iconst hX (pc := 7) (v := (-1)) dX4_undo_7 (by decide) ?_
    replace h := Option.some.inj h
    obtain ⟨rfl, rfl⟩ := Prod.mk.inj h
    exact g_ireturn hX (Nat.le_refl _) (Nat.le_refl _) dX4_undo_8
  · replace h := ifN c1 h
    refine g_aload_n hX (pc := 9) (i := 0) dX4_undo_9 rfl 0 rfl ?_
    refine g_aload_n hX (pc := 10) (i := 0) dX4_undo_10 rfl 0 rfl ?_
    refine gf4_8 hX (pc := 11) ho0 fl_X4_52 dX4_undo_11 ?_
    refine g_bipush hX (pc := 14) (v := 12) dX4_undo_14 (by decide) ?_
    refine g_iadd hX (pc := 16) dX4_undo_16 ?_
    refine g_iconst hX (pc := 17) (v := 1) dX4_undo_17 (by decide) ?_
    refine g_isub hX (pc := 18) dX4_undo_18 ?_
    refine g_bipush hX (pc := 19) (v := 12) dX4_undo_19 (by decide) ?_
    refine g_irem hX (pc := 21) dX4_undo_21 (by decide) ?_
    obtain ⟨I2, e_I2, h⟩ := bnd h
    refine pf4_8 hX (pc := 22) ho0 fl_X4_52 dX4_undo_22 e_I2 ?_
    refine g_aload_n hX (pc := 25) (i := 0) dX4_undo_25 rfl 0 rfl ?_
    refine gf4_7 hX (pc := 26) ho0 fl_X4_48 dX4_undo_26 ?_
    refine g_aload_n hX (pc := 29) (i := 0) dX4_undo_29 rfl 0 rfl ?_
    refine gf4_8 hX (pc := 30) ho0 fl_X4_52 dX4_undo_30 ?_
    obtain ⟨q3, e_q3, h⟩ := bnd h
    refine g_aaloadE hX (pc := 33) (s4_7 ho0).1 (s4_7 ho0).2.1 (s4_7 ho0).2.2.1 e_q3 dX4_undo_33 ?_
    cases q3 with
    | none =>
      replace h := ocN h
      refine g_astore_nN hX (pc := 34) (i := 1) (ls' := [(0, .ref o0), (1, .null)]) [1, 0] dX4_undo_34 rfl (by decide) rfl ?_
      refine g_aload_nN hX (pc := 35) (i := 1) dX4_undo_35 rfl 1 rfl ?_
      refine g_ifnullN hX (pc := 36) (tgt := 47) dX4_undo_36 (by decide) ?_
      refine g_aload_n hX (pc := 47) (i := 0) dX4_undo_47 rfl 0 rfl ?_
      refine g_dup hX (pc := 48) dX4_undo_48 rfl ?_
      refine gf4_9 hX (pc := 49) ho0 fl_X4_55 dX4_undo_49 ?_
      refine g_iconst hX (pc := 52) (v := 1) dX4_undo_52 (by decide) ?_
      refine g_isub hX (pc := 53) dX4_undo_53 ?_
      obtain ⟨I4, e_I4, h⟩ := bnd h
      refine pf4_9 hX (pc := 54) ho0 fl_X4_55 dX4_undo_54 e_I4 ?_
      refine g_aload_n hX (pc := 57) (i := 0) dX4_undo_57 rfl 0 rfl ?_
      refine gf4_9 hX (pc := 58) ho0 fl_X4_55 dX4_undo_58 ?_
      replace h := Option.some.inj h
      obtain ⟨rfl, rfl⟩ := Prod.mk.inj h
      exact g_ireturn hX (Nat.le_refl _) (Nat.le_refl _) dX4_undo_61
    | some a5 =>
      replace h := ocS h
      obtain ⟨g6, e_g6, h⟩ := bnd h
      refine g_astore_n hX (pc := 34) (i := 1) (ls' := [(0, .ref o0), (1, .ref a5)]) [1, 0] dX4_undo_34 rfl (by decide) rfl ?_
      refine g_aload_n hX (pc := 35) (i := 1) dX4_undo_35 rfl 1 rfl ?_
      refine g_ifnull hX (pc := 36) dX4_undo_36 ?_
      refine g_aload_n hX (pc := 39) (i := 0) dX4_undo_39 rfl 0 rfl ?_
      refine gf4_5 hX (pc := 40) ho0 fl_X4_37 dX4_undo_40 ?_
      refine g_aload_n hX (pc := 43) (i := 1) dX4_undo_43 rfl 1 rfl ?_
      obtain ⟨r7, e_r7, h⟩ := bnd h
      refine g_callVv hX (pc := 44) (d := d + 1) hr0 [.ref a5] (c := 0) (ct_X0_copyFrom (d := d + 0) (s4_5 ho0).1 (gd_some e_g6) e_r7) (s4_5 ho0).1.1.1 (s4_5 ho0).1.1.2 (by decide) rfl co_X0_copyFrom ml_X4_241 im_X0_copyFrom sl_X0_copyFrom ini_X0 nm_X0_copyFrom (by decide) ⟨Nat.le_refl _, Nat.le_refl _⟩ (Nat.le_refl _) (Nat.le_of_ble_eq_true rfl) rfl dX4_undo_44 ?_
      refine g_aload_n hX (pc := 47) (i := 0) dX4_undo_47 rfl 0 rfl ?_
      refine g_dup hX (pc := 48) dX4_undo_48 rfl ?_
      refine gf4_9 hX (pc := 49) ho0 fl_X4_55 dX4_undo_49 ?_
      refine g_iconst hX (pc := 52) (v := 1) dX4_undo_52 (by decide) ?_
      refine g_isub hX (pc := 53) dX4_undo_53 ?_
      obtain ⟨I8, e_I8, h⟩ := bnd h
      refine pf4_9 hX (pc := 54) ho0 fl_X4_55 dX4_undo_54 e_I8 ?_
      refine g_aload_n hX (pc := 57) (i := 0) dX4_undo_57 rfl 0 rfl ?_
      refine gf4_9 hX (pc := 58) ho0 fl_X4_55 dX4_undo_58 ?_
      replace h := Option.some.inj h
      obtain ⟨rfl, rfl⟩ := Prod.mk.inj h
      exact g_ireturn hX (Nat.le_refl _) (Nat.le_refl _) dX4_undo_61
noncomputable def f_X4_count (o0 t0 u0 : Nat) (x1 : Int32) (I : MI) : Option (Int32) :=
  if x1 = 0 then
    some (I t0 6)
  else
    if x1 = 1 then
      some (I t0 10)
    else
      if x1 = 2 then
        some (I t0 1)
      else
        if x1 = 3 then
          (f_X0_freeHoles (o0 + 24) t0 I).bind fun r5 =>
          some r5
        else
          if x1 = 4 then
            (f_X0_waiting (o0 + 24) t0 I).bind fun r7 =>
            (f_J6_bitCount_0f7a4 r7).bind fun r8 =>
            some r8
          else
            if x1 = 5 then
              (f_X0_lateOfAll (o0 + 24) I).bind fun r10 =>
              some r10
            else
              if x1 = 6 then
                some (I o0 9)
              else
                if x1 = 7 then
                  some (I o0 1)
                else
                  if x1 = 8 then
                    some (I t0 3)
                  else
                    if x1 = 9 then
                      some (I t0 4)
                    else
                      some ((-1))
theorem nm_X4_count : yX4_count.cls ≠ "java/lang/invoke/MethodHandle" ∧ yX4_count.cls ≠ "java/lang/invoke/VarHandle" ∧ (parseMethodDescriptor yX4_count.desc).map (fun d => d.parameters.length) = some 1 := by decide +kernel
set_option maxRecDepth 100000 in
set_option maxHeartbeats 4000000 in
theorem ct_X4_count {E : Ev} {d : Nat} {z : Sh} {J : MJ} {I : MI} {o0 t0 u0 : Nat} {x1 : Int32} {rr : Int32} (ho0 : oX4 z o0 t0 u0) (h : f_X4_count o0 t0 u0 x1 I = some rr) : Ct E (d + 3) yX4_count cX4_count 2 (some .int) 0 0 [.ref o0, .int x1] z J I (some (.int rr)) z J I := by
  unfold f_X4_count at h
  refine Ct.of (own := RX4) (ls := [(0, .ref o0), (1, .int x1)]) (by decide) rfl (Nat.le_of_ble_eq_true rfl) rfl ?_
  intro X hr0 hnm hX
  refine g_iload_n hX (pc := 0) (i := 1) dX4_count_0 rfl 1 rfl ?_
  by_cases c1 : x1 = 0
  · replace h := ifP c1 h
    refine g_tableIn hX (pc := 1) (tgt := 56) (off := 55) dX4_count_1 (by rw [c1]; decide) (by rw [c1]; decide) (by rw [c1]; rfl) (by decide) ?_
    refine g_aload_n hX (pc := 56) (i := 0) dX4_count_56 rfl 0 rfl ?_
    refine gf4_3 hX (pc := 57) ho0 fl_X4_27 dX4_count_57 ?_
    refine gf3_6 hX (pc := 60) (s4_3 ho0).1 fl_X4_248 dX4_count_60 ?_
    obtain rfl := Option.some.inj h
    exact g_ireturn hX (Nat.le_refl _) (Nat.le_refl _) dX4_count_63
  · replace h := ifN c1 h
    by_cases c2 : x1 = 1
    · replace h := ifP c2 h
      refine g_tableIn hX (pc := 1) (tgt := 64) (off := 63) dX4_count_1 (by rw [c2]; decide) (by rw [c2]; decide) (by rw [c2]; rfl) (by decide) ?_
      refine g_aload_n hX (pc := 64) (i := 0) dX4_count_64 rfl 0 rfl ?_
      refine gf4_3 hX (pc := 65) ho0 fl_X4_27 dX4_count_65 ?_
      refine gf3_10 hX (pc := 68) (s4_3 ho0).1 fl_X4_221 dX4_count_68 ?_
      obtain rfl := Option.some.inj h
      exact g_ireturn hX (Nat.le_refl _) (Nat.le_refl _) dX4_count_71
    · replace h := ifN c2 h
      by_cases c3 : x1 = 2
      · replace h := ifP c3 h
        refine g_tableIn hX (pc := 1) (tgt := 72) (off := 71) dX4_count_1 (by rw [c3]; decide) (by rw [c3]; decide) (by rw [c3]; rfl) (by decide) ?_
        refine g_aload_n hX (pc := 72) (i := 0) dX4_count_72 rfl 0 rfl ?_
        refine gf4_3 hX (pc := 73) ho0 fl_X4_27 dX4_count_73 ?_
        refine gf3_1 hX (pc := 76) (s4_3 ho0).1 fl_X4_209 dX4_count_76 ?_
        obtain rfl := Option.some.inj h
        exact g_ireturn hX (Nat.le_refl _) (Nat.le_refl _) dX4_count_79
      · replace h := ifN c3 h
        by_cases c4 : x1 = 3
        · replace h := ifP c4 h
          refine g_tableIn hX (pc := 1) (tgt := 80) (off := 79) dX4_count_1 (by rw [c4]; decide) (by rw [c4]; decide) (by rw [c4]; rfl) (by decide) ?_
          refine g_aload_n hX (pc := 80) (i := 0) dX4_count_80 rfl 0 rfl ?_
          refine gf4_5 hX (pc := 81) ho0 fl_X4_37 dX4_count_81 ?_
          refine g_aload_n hX (pc := 84) (i := 0) dX4_count_84 rfl 0 rfl ?_
          refine gf4_3 hX (pc := 85) ho0 fl_X4_27 dX4_count_85 ?_
          obtain ⟨r5, e_r5, h⟩ := bnd h
          refine g_callVi hX (pc := 88) (d := d + 2) hr0 [.ref t0] (c := 0) (ct_X0_freeHoles (d := d + 2) (s4_5 ho0).1 (s4_3 ho0).1 e_r5) (s4_5 ho0).1.1.1 (s4_5 ho0).1.1.2 (by decide) rfl co_X0_freeHoles ml_X4_251 im_X0_freeHoles sl_X0_freeHoles ini_X0 nm_X0_freeHoles (by decide) ⟨Nat.le_refl _, Nat.le_refl _⟩ (Nat.le_refl _) (Nat.le_of_ble_eq_true rfl) rfl dX4_count_88 ?_
          obtain rfl := Option.some.inj h
          exact g_ireturn hX (Nat.le_refl _) (Nat.le_refl _) dX4_count_91
        · replace h := ifN c4 h
          by_cases c6 : x1 = 4
          · replace h := ifP c6 h
            refine g_tableIn hX (pc := 1) (tgt := 92) (off := 91) dX4_count_1 (by rw [c6]; decide) (by rw [c6]; decide) (by rw [c6]; rfl) (by decide) ?_
            refine g_aload_n hX (pc := 92) (i := 0) dX4_count_92 rfl 0 rfl ?_
            refine gf4_5 hX (pc := 93) ho0 fl_X4_37 dX4_count_93 ?_
            refine g_aload_n hX (pc := 96) (i := 0) dX4_count_96 rfl 0 rfl ?_
            refine gf4_3 hX (pc := 97) ho0 fl_X4_27 dX4_count_97 ?_
            obtain ⟨r7, e_r7, h⟩ := bnd h
            refine g_callVi hX (pc := 100) (d := d + 2) hr0 [.ref t0] (c := 0) (ct_X0_waiting (d := d + 2) (s4_5 ho0).1 (s4_3 ho0).1 e_r7) (s4_5 ho0).1.1.1 (s4_5 ho0).1.1.2 (by decide) rfl co_X0_waiting ml_X4_254 im_X0_waiting sl_X0_waiting ini_X0 nm_X0_waiting (by decide) ⟨Nat.le_refl _, Nat.le_refl _⟩ (Nat.le_refl _) (Nat.le_of_ble_eq_true rfl) rfl dX4_count_100 ?_
            obtain ⟨r8, e_r8, h⟩ := bnd h
            refine g_callSi hX (pc := 103) (d := d + 2) hr0 [.int r7] (ct_J6_bitCount_0f7a4 (d := d + 2)  e_r8) co_J6_bitCount_0f7a4 ml_X4_142 sta_J6_bitCount_0f7a4 ini_J6 nm_J6_bitCount_0f7a4 (by decide) ⟨Nat.le_refl _, Nat.le_refl _⟩ (Nat.le_refl _) (Nat.le_of_ble_eq_true rfl) rfl dX4_count_103 ?_
            obtain rfl := Option.some.inj h
            exact g_ireturn hX (Nat.le_refl _) (Nat.le_refl _) dX4_count_106
          · replace h := ifN c6 h
            by_cases c9 : x1 = 5
            · replace h := ifP c9 h
              refine g_tableIn hX (pc := 1) (tgt := 107) (off := 106) dX4_count_1 (by rw [c9]; decide) (by rw [c9]; decide) (by rw [c9]; rfl) (by decide) ?_
              refine g_aload_n hX (pc := 107) (i := 0) dX4_count_107 rfl 0 rfl ?_
              refine gf4_5 hX (pc := 108) ho0 fl_X4_37 dX4_count_108 ?_
              obtain ⟨r10, e_r10, h⟩ := bnd h
              refine g_callVi hX (pc := 111) (d := d + 2) hr0 [] (c := 0) (ct_X0_lateOfAll (d := d + 0) (s4_5 ho0).1 e_r10) (s4_5 ho0).1.1.1 (s4_5 ho0).1.1.2 (by decide) rfl co_X0_lateOfAll ml_X4_257 im_X0_lateOfAll sl_X0_lateOfAll ini_X0 nm_X0_lateOfAll (by decide) ⟨Nat.le_refl _, Nat.le_refl _⟩ (Nat.le_refl _) (Nat.le_of_ble_eq_true rfl) rfl dX4_count_111 ?_
              obtain rfl := Option.some.inj h
              exact g_ireturn hX (Nat.le_refl _) (Nat.le_refl _) dX4_count_114
            · replace h := ifN c9 h
              by_cases c11 : x1 = 6
              · replace h := ifP c11 h
                refine g_tableIn hX (pc := 1) (tgt := 115) (off := 114) dX4_count_1 (by rw [c11]; decide) (by rw [c11]; decide) (by rw [c11]; rfl) (by decide) ?_
                refine g_aload_n hX (pc := 115) (i := 0) dX4_count_115 rfl 0 rfl ?_
                refine gf4_9 hX (pc := 116) ho0 fl_X4_55 dX4_count_116 ?_
                obtain rfl := Option.some.inj h
                exact g_ireturn hX (Nat.le_refl _) (Nat.le_refl _) dX4_count_119
              · replace h := ifN c11 h
                by_cases c12 : x1 = 7
                · replace h := ifP c12 h
                  refine g_tableIn hX (pc := 1) (tgt := 120) (off := 119) dX4_count_1 (by rw [c12]; decide) (by rw [c12]; decide) (by rw [c12]; rfl) (by decide) ?_
                  refine g_aload_n hX (pc := 120) (i := 0) dX4_count_120 rfl 0 rfl ?_
                  refine gf4_1 hX (pc := 121) ho0 fl_X4_13 dX4_count_121 ?_
                  obtain rfl := Option.some.inj h
                  exact g_ireturn hX (Nat.le_refl _) (Nat.le_refl _) dX4_count_124
                · replace h := ifN c12 h
                  by_cases c13 : x1 = 8
                  · replace h := ifP c13 h
                    refine g_tableIn hX (pc := 1) (tgt := 125) (off := 124) dX4_count_1 (by rw [c13]; decide) (by rw [c13]; decide) (by rw [c13]; rfl) (by decide) ?_
                    refine g_aload_n hX (pc := 125) (i := 0) dX4_count_125 rfl 0 rfl ?_
                    refine gf4_3 hX (pc := 126) ho0 fl_X4_27 dX4_count_126 ?_
                    refine gf3_3 hX (pc := 129) (s4_3 ho0).1 fl_X4_260 dX4_count_129 ?_
                    obtain rfl := Option.some.inj h
                    exact g_ireturn hX (Nat.le_refl _) (Nat.le_refl _) dX4_count_132
                  · replace h := ifN c13 h
                    by_cases c14 : x1 = 9
                    · replace h := ifP c14 h
                      refine g_tableIn hX (pc := 1) (tgt := 133) (off := 132) dX4_count_1 (by rw [c14]; decide) (by rw [c14]; decide) (by rw [c14]; rfl) (by decide) ?_
                      refine g_aload_n hX (pc := 133) (i := 0) dX4_count_133 rfl 0 rfl ?_
                      refine gf4_3 hX (pc := 134) ho0 fl_X4_27 dX4_count_134 ?_
                      refine gf3_4 hX (pc := 137) (s4_3 ho0).1 fl_X4_263 dX4_count_137 ?_
                      obtain rfl := Option.some.inj h
                      exact g_ireturn hX (Nat.le_refl _) (Nat.le_refl _) dX4_count_140
                    · replace h := ifN c14 h
                      refine g_tableOut hX (pc := 1) (tgt := 141) dX4_count_1 (by have q0 := lv_neT c1 (show (0 : Int32).toInt = 0 by decide); have q1 := lv_neT c2 (show (1 : Int32).toInt = 1 by decide); have q2 := lv_neT c3 (show (2 : Int32).toInt = 2 by decide); have q3 := lv_neT c4 (show (3 : Int32).toInt = 3 by decide); have q4 := lv_neT c6 (show (4 : Int32).toInt = 4 by decide); have q5 := lv_neT c9 (show (5 : Int32).toInt = 5 by decide); have q6 := lv_neT c11 (show (6 : Int32).toInt = 6 by decide); have q7 := lv_neT c12 (show (7 : Int32).toInt = 7 by decide); have q8 := lv_neT c13 (show (8 : Int32).toInt = 8 by decide); have q9 := lv_neT c14 (show (9 : Int32).toInt = 9 by decide); omega) (by decide) ?_
                      refine g_iconst hX (pc := 141) (v := (-1)) dX4_count_141 (by decide) ?_
                      obtain rfl := Option.some.inj h
                      exact g_ireturn hX (Nat.le_refl _) (Nat.le_refl _) dX4_count_142
noncomputable def f_X4_goBackTo (o0 t0 u0 : Nat) (x1 : Int32) (z : Sh) (I : MI) : Option (Int32 × MI) :=
  (rd 2 (zR z (o0 + 44)) x1).bind fun q1 =>
  oc q1 (
    (rd 2 (I (o0 + 45)) x1).bind fun v2 =>
    if v2 = 0 then
      some ((0, I))
    else
      some ((0, I))) (fun a4 =>
    (gd (oX0 z a4)).bind fun g5 =>
    (rd 2 (I (o0 + 45)) x1).bind fun v6 =>
    if v6 = 0 then
      some ((0, I))
    else
      (f_X0_copyFrom (o0 + 24) a4 I).bind fun r8 =>
      (wf r8 o0 9 0).bind fun I9 =>
      some ((1, I9)))
theorem nm_X4_goBackTo : yX4_goBackTo.cls ≠ "java/lang/invoke/MethodHandle" ∧ yX4_goBackTo.cls ≠ "java/lang/invoke/VarHandle" ∧ (parseMethodDescriptor yX4_goBackTo.desc).map (fun d => d.parameters.length) = some 1 := by decide +kernel
set_option maxRecDepth 100000 in
set_option maxHeartbeats 4000000 in
theorem ct_X4_goBackTo {E : Ev} {d : Nat} {z : Sh} {J : MJ} {I : MI} {o0 t0 u0 : Nat} {x1 : Int32} {rr : Int32} {Iz : MI} (ho0 : oX4 z o0 t0 u0) (h : f_X4_goBackTo o0 t0 u0 x1 z I = some ((rr, Iz))) : Ct E (d + 2) yX4_goBackTo cX4_goBackTo 3 (some .boolean) 0 0 [.ref o0, .int x1] z J I (some (.int rr)) z J Iz := by
  unfold f_X4_goBackTo at h
  refine Ct.of (own := RX4) (ls := [(0, .ref o0), (1, .int x1)]) (by decide) rfl (Nat.le_of_ble_eq_true rfl) rfl ?_
  intro X hr0 hnm hX
  refine g_aload_n hX (pc := 0) (i := 0) dX4_goBackTo_0 rfl 0 rfl ?_
  refine gf4_10 hX (pc := 1) ho0 fl_X4_58 dX4_goBackTo_1 ?_
  refine g_iload_n hX (pc := 4) (i := 1) dX4_goBackTo_4 rfl 1 rfl ?_
  obtain ⟨q1, e_q1, h⟩ := bnd h
  refine g_aaloadE hX (pc := 5) (s4_10 ho0).1 (s4_10 ho0).2.1 (s4_10 ho0).2.2.1 e_q1 dX4_goBackTo_5 ?_
  cases q1 with
  | none =>
    replace h := ocN h
    refine g_astore_nN hX (pc := 6) (i := 2) (ls' := [(0, .ref o0), (1, .int x1), (2, .null)]) [1, 2, 0] dX4_goBackTo_6 rfl (by decide) rfl ?_
    refine g_aload_n hX (pc := 7) (i := 0) dX4_goBackTo_7 rfl 0 rfl ?_
    refine gf4_11 hX (pc := 8) ho0 fl_X4_61 dX4_goBackTo_8 ?_
    refine g_iload_n hX (pc := 11) (i := 1) dX4_goBackTo_11 rfl 1 rfl ?_
    obtain ⟨v2, e_v2, h⟩ := bnd h
    refine g_zaloadE hX (pc := 12) (s4_11 ho0).1 (s4_11 ho0).2.1 (s4_11 ho0).2.2.1 e_v2 dX4_goBackTo_12 ?_
    refine g_if_eq hX (pc := 13) dX4_goBackTo_13 (tgt := 20) (by decide) (fun c3 => ?_) (fun c3 => ?_)
    · replace h := ifP c3 h
      refine g_iconst hX (pc := 20) (v := 0) dX4_goBackTo_20 (by decide) ?_
      replace h := Option.some.inj h
      obtain ⟨rfl, rfl⟩ := Prod.mk.inj h
      exact g_zreturn hX (Or.inl rfl) (Nat.le_refl _) (Nat.le_refl _) dX4_goBackTo_21
    · replace h := ifN c3 h
      refine g_aload_nN hX (pc := 16) (i := 2) dX4_goBackTo_16 rfl 2 rfl ?_
      refine g_ifnonnullN hX (pc := 17) dX4_goBackTo_17 ?_
      refine g_iconst hX (pc := 20) (v := 0) dX4_goBackTo_20 (by decide) ?_
      replace h := Option.some.inj h
      obtain ⟨rfl, rfl⟩ := Prod.mk.inj h
      exact g_zreturn hX (Or.inl rfl) (Nat.le_refl _) (Nat.le_refl _) dX4_goBackTo_21
  | some a4 =>
    replace h := ocS h
    obtain ⟨g5, e_g5, h⟩ := bnd h
    refine g_astore_n hX (pc := 6) (i := 2) (ls' := [(0, .ref o0), (1, .int x1), (2, .ref a4)]) [1, 2, 0] dX4_goBackTo_6 rfl (by decide) rfl ?_
    refine g_aload_n hX (pc := 7) (i := 0) dX4_goBackTo_7 rfl 0 rfl ?_
    refine gf4_11 hX (pc := 8) ho0 fl_X4_61 dX4_goBackTo_8 ?_
    refine g_iload_n hX (pc := 11) (i := 1) dX4_goBackTo_11 rfl 1 rfl ?_
    obtain ⟨v6, e_v6, h⟩ := bnd h
    refine g_zaloadE hX (pc := 12) (s4_11 ho0).1 (s4_11 ho0).2.1 (s4_11 ho0).2.2.1 e_v6 dX4_goBackTo_12 ?_
    refine g_if_eq hX (pc := 13) dX4_goBackTo_13 (tgt := 20) (by decide) (fun c7 => ?_) (fun c7 => ?_)
    · replace h := ifP c7 h
      refine g_iconst hX (pc := 20) (v := 0) dX4_goBackTo_20 (by decide) ?_
      replace h := Option.some.inj h
      obtain ⟨rfl, rfl⟩ := Prod.mk.inj h
      exact g_zreturn hX (Or.inl rfl) (Nat.le_refl _) (Nat.le_refl _) dX4_goBackTo_21
    · replace h := ifN c7 h
      refine g_aload_n hX (pc := 16) (i := 2) dX4_goBackTo_16 rfl 2 rfl ?_
      refine g_ifnonnull hX (pc := 17) (tgt := 22) dX4_goBackTo_17 (by decide) ?_
      refine g_aload_n hX (pc := 22) (i := 0) dX4_goBackTo_22 rfl 0 rfl ?_
      refine gf4_5 hX (pc := 23) ho0 fl_X4_37 dX4_goBackTo_23 ?_
      refine g_aload_n hX (pc := 26) (i := 2) dX4_goBackTo_26 rfl 2 rfl ?_
      obtain ⟨r8, e_r8, h⟩ := bnd h
      refine g_callVv hX (pc := 27) (d := d + 1) hr0 [.ref a4] (c := 0) (ct_X0_copyFrom (d := d + 0) (s4_5 ho0).1 (gd_some e_g5) e_r8) (s4_5 ho0).1.1.1 (s4_5 ho0).1.1.2 (by decide) rfl co_X0_copyFrom ml_X4_241 im_X0_copyFrom sl_X0_copyFrom ini_X0 nm_X0_copyFrom (by decide) ⟨Nat.le_refl _, Nat.le_refl _⟩ (Nat.le_refl _) (Nat.le_of_ble_eq_true rfl) rfl dX4_goBackTo_27 ?_
      refine g_aload_n hX (pc := 30) (i := 0) dX4_goBackTo_30 rfl 0 rfl ?_
      refine g_iconst hX (pc := 31) (v := 0) dX4_goBackTo_31 (by decide) ?_
      obtain ⟨I9, e_I9, h⟩ := bnd h
      refine pf4_9 hX (pc := 32) ho0 fl_X4_55 dX4_goBackTo_32 e_I9 ?_
      refine g_iconst hX (pc := 35) (v := 1) dX4_goBackTo_35 (by decide) ?_
      replace h := Option.some.inj h
      obtain ⟨rfl, rfl⟩ := Prod.mk.inj h
      exact g_zreturn hX (Or.inr rfl) (Nat.le_refl _) (Nat.le_refl _) dX4_goBackTo_36
noncomputable def f_X0_init (o0 : Nat) (z : Sh) (I : MI) : Option (Sh × MI) :=
  (nm (zNa z 7 10)).bind fun z2 =>
  (nm (clr 0 I (zs z))).bind fun I1 =>
  (nm (zSt z2 o0 0 (some (zs z)))).bind fun z4 =>
  (nm (zNa z4 7 16)).bind fun z7 =>
  (nm (clr 0 I1 (zs z4))).bind fun I6 =>
  (nm (zSt z7 o0 1 (some (zs z4)))).bind fun z9 =>
  (nm (zNa z9 7 16)).bind fun z12 =>
  (nm (clr 0 I6 (zs z9))).bind fun I11 =>
  (nm (zSt z12 o0 2 (some (zs z9)))).bind fun z14 =>
  (nm (zNa z14 7 8)).bind fun z17 =>
  (nm (clr 0 I11 (zs z14))).bind fun I16 =>
  (nm (zSt z17 o0 3 (some (zs z14)))).bind fun z19 =>
  (nm (zNa z19 7 160)).bind fun z22 =>
  (nm (clr 0 I16 (zs z19))).bind fun I21 =>
  (nm (zSt z22 o0 4 (some (zs z19)))).bind fun z24 =>
  (nm (zNa z24 7 160)).bind fun z27 =>
  (nm (clr 0 I21 (zs z24))).bind fun I26 =>
  (nm (zSt z27 o0 5 (some (zs z24)))).bind fun z29 =>
  (nm (zNa z29 7 16)).bind fun z32 =>
  (nm (clr 0 I26 (zs z29))).bind fun I31 =>
  (nm (zSt z32 o0 6 (some (zs z29)))).bind fun z34 =>
  (wf I31 o0 7 0).bind fun I36 =>
  (nm (zNa z34 7 864)).bind fun z38 =>
  (nm (clr 0 I36 (zs z34))).bind fun I37 =>
  (nm (zSt z38 o0 8 (some (zs z34)))).bind fun z40 =>
  (wf I37 o0 9 0).bind fun I42 =>
  (wf I42 o0 10 0).bind fun I43 =>
  (nm (zNa z40 7 864)).bind fun z45 =>
  (nm (clr 0 I43 (zs z40))).bind fun I44 =>
  (nm (zSt z45 o0 11 (some (zs z40)))).bind fun z47 =>
  (wf I44 o0 12 0).bind fun I49 =>
  (gd (oX0 z47 o0)).bind fun g50 =>
  (f_J7_fill_53178 (o0 + 3) 16 ((-1)) I49).bind fun r51 =>
  (f_J7_fill_53178 (o0 + 4) 8 ((-1)) r51).bind fun r52 =>
  some ((z47, r52))
theorem nm_X0_init : yX0_init.cls ≠ "java/lang/invoke/MethodHandle" ∧ yX0_init.cls ≠ "java/lang/invoke/VarHandle" ∧ (parseMethodDescriptor yX0_init.desc).map (fun d => d.parameters.length) = some 0 := by decide +kernel
set_option maxRecDepth 100000 in
set_option maxHeartbeats 4000000 in
theorem ct_X0_init {E : Ev} {d : Nat} {z : Sh} {J : MJ} {I : MI} {o0 : Nat} {zz : Sh} {Iz : MI} (ho0 : raw z o0 0) (h : f_X0_init o0 z I = some ((zz, Iz))) : Ct E (d + 1) yX0_init cX0_init 1 none 9 2114 [.ref o0] z J I none zz J Iz := by
  unfold f_X0_init at h
  refine Ct.of (own := RX0) (ls := [(0, .ref o0)]) (by decide) rfl (Nat.le_of_ble_eq_true rfl) rfl ?_
  intro X hr0 hnm hX
  refine g_aload_n hX (pc := 0) (i := 0) dX0_init_0 rfl 0 rfl ?_
  refine g_objInit hX (pc := 1) (d := d + 0) hr0 ml_X0_3 im_java_lang_Object__init__3 co_objInit (by exact Nat.le_of_ble_eq_true rfl) dX0_init_1 ?_
  refine g_aload_n hX (pc := 4) (i := 0) dX0_init_4 rfl 0 rfl ?_
  refine g_bipush hX (pc := 5) (v := 10) dX0_init_5 (by decide) ?_
  refine g_newA7 hX (pc := 7) hr0 (N := 10) (by decide) (by decide) (by decide) (by decide) dX0_init_7 ?_
  obtain ⟨z2, e_z2, h⟩ := bnd h
  refine g_nmz e_z2 ?_
  have hu3 := raw.nm e_z2 (ho0.na 7 10)
  obtain ⟨I1, e_I1, h⟩ := bnd h
  refine g_nmM e_I1 ?_
  refine pr0_0 hX (pc := 9) hu3 fl_X0_9 hnm rfl dX0_init_9 ?_
  obtain ⟨z4, e_z4, h⟩ := bnd h
  refine g_nmz e_z4 ?_
  have hu5 := raw.nm e_z4 (hu3.st o0 0 (some (zs z)))
  refine g_aload_n hX (pc := 12) (i := 0) dX0_init_12 rfl 0 rfl ?_
  refine g_bipush hX (pc := 13) (v := 16) dX0_init_13 (by decide) ?_
  refine g_newA7 hX (pc := 15) hr0 (N := 16) (by decide) (by decide) (by decide) (by decide) dX0_init_15 ?_
  obtain ⟨z7, e_z7, h⟩ := bnd h
  refine g_nmz e_z7 ?_
  have hu8 := raw.nm e_z7 (hu5.na 7 16)
  obtain ⟨I6, e_I6, h⟩ := bnd h
  refine g_nmM e_I6 ?_
  refine pr0_1 hX (pc := 17) hu8 fl_X0_15 hnm rfl dX0_init_17 ?_
  obtain ⟨z9, e_z9, h⟩ := bnd h
  refine g_nmz e_z9 ?_
  have hu10 := raw.nm e_z9 (hu8.st o0 1 (some (zs z4)))
  refine g_aload_n hX (pc := 20) (i := 0) dX0_init_20 rfl 0 rfl ?_
  refine g_bipush hX (pc := 21) (v := 16) dX0_init_21 (by decide) ?_
  refine g_newA7 hX (pc := 23) hr0 (N := 16) (by decide) (by decide) (by decide) (by decide) dX0_init_23 ?_
  obtain ⟨z12, e_z12, h⟩ := bnd h
  refine g_nmz e_z12 ?_
  have hu13 := raw.nm e_z12 (hu10.na 7 16)
  obtain ⟨I11, e_I11, h⟩ := bnd h
  refine g_nmM e_I11 ?_
  refine pr0_2 hX (pc := 25) hu13 fl_X0_18 hnm rfl dX0_init_25 ?_
  obtain ⟨z14, e_z14, h⟩ := bnd h
  refine g_nmz e_z14 ?_
  have hu15 := raw.nm e_z14 (hu13.st o0 2 (some (zs z9)))
  refine g_aload_n hX (pc := 28) (i := 0) dX0_init_28 rfl 0 rfl ?_
  refine g_bipush hX (pc := 29) (v := 8) dX0_init_29 (by decide) ?_
  refine g_newA7 hX (pc := 31) hr0 (N := 8) (by decide) (by decide) (by decide) (by decide) dX0_init_31 ?_
  obtain ⟨z17, e_z17, h⟩ := bnd h
  refine g_nmz e_z17 ?_
  have hu18 := raw.nm e_z17 (hu15.na 7 8)
  obtain ⟨I16, e_I16, h⟩ := bnd h
  refine g_nmM e_I16 ?_
  refine pr0_3 hX (pc := 33) hu18 fl_X0_21 hnm rfl dX0_init_33 ?_
  obtain ⟨z19, e_z19, h⟩ := bnd h
  refine g_nmz e_z19 ?_
  have hu20 := raw.nm e_z19 (hu18.st o0 3 (some (zs z14)))
  refine g_aload_n hX (pc := 36) (i := 0) dX0_init_36 rfl 0 rfl ?_
  refine g_sipush hX (pc := 37) (v := 160) dX0_init_37 (by decide) ?_
  refine g_newA7 hX (pc := 40) hr0 (N := 160) (by decide) (by decide) (by decide) (by decide) dX0_init_40 ?_
  obtain ⟨z22, e_z22, h⟩ := bnd h
  refine g_nmz e_z22 ?_
  have hu23 := raw.nm e_z22 (hu20.na 7 160)
  obtain ⟨I21, e_I21, h⟩ := bnd h
  refine g_nmM e_I21 ?_
  refine pr0_4 hX (pc := 42) hu23 fl_X0_24 hnm rfl dX0_init_42 ?_
  obtain ⟨z24, e_z24, h⟩ := bnd h
  refine g_nmz e_z24 ?_
  have hu25 := raw.nm e_z24 (hu23.st o0 4 (some (zs z19)))
  refine g_aload_n hX (pc := 45) (i := 0) dX0_init_45 rfl 0 rfl ?_
  refine g_sipush hX (pc := 46) (v := 160) dX0_init_46 (by decide) ?_
  refine g_newA7 hX (pc := 49) hr0 (N := 160) (by decide) (by decide) (by decide) (by decide) dX0_init_49 ?_
  obtain ⟨z27, e_z27, h⟩ := bnd h
  refine g_nmz e_z27 ?_
  have hu28 := raw.nm e_z27 (hu25.na 7 160)
  obtain ⟨I26, e_I26, h⟩ := bnd h
  refine g_nmM e_I26 ?_
  refine pr0_5 hX (pc := 51) hu28 fl_X0_27 hnm rfl dX0_init_51 ?_
  obtain ⟨z29, e_z29, h⟩ := bnd h
  refine g_nmz e_z29 ?_
  have hu30 := raw.nm e_z29 (hu28.st o0 5 (some (zs z24)))
  refine g_aload_n hX (pc := 54) (i := 0) dX0_init_54 rfl 0 rfl ?_
  refine g_bipush hX (pc := 55) (v := 16) dX0_init_55 (by decide) ?_
  refine g_newA7 hX (pc := 57) hr0 (N := 16) (by decide) (by decide) (by decide) (by decide) dX0_init_57 ?_
  obtain ⟨z32, e_z32, h⟩ := bnd h
  refine g_nmz e_z32 ?_
  have hu33 := raw.nm e_z32 (hu30.na 7 16)
  obtain ⟨I31, e_I31, h⟩ := bnd h
  refine g_nmM e_I31 ?_
  refine pr0_6 hX (pc := 59) hu33 fl_X0_30 hnm rfl dX0_init_59 ?_
  obtain ⟨z34, e_z34, h⟩ := bnd h
  refine g_nmz e_z34 ?_
  have hu35 := raw.nm e_z34 (hu33.st o0 6 (some (zs z29)))
  refine g_aload_n hX (pc := 62) (i := 0) dX0_init_62 rfl 0 rfl ?_
  refine g_iconst hX (pc := 63) (v := 0) dX0_init_63 (by decide) ?_
  obtain ⟨I36, e_I36, h⟩ := bnd h
  refine pi0_7 hX (pc := 64) hu35 fl_X0_33 dX0_init_64 e_I36 ?_
  refine g_aload_n hX (pc := 67) (i := 0) dX0_init_67 rfl 0 rfl ?_
  refine g_sipush hX (pc := 68) (v := 864) dX0_init_68 (by decide) ?_
  refine g_newA7 hX (pc := 71) hr0 (N := 864) (by decide) (by decide) (by decide) (by decide) dX0_init_71 ?_
  obtain ⟨z38, e_z38, h⟩ := bnd h
  refine g_nmz e_z38 ?_
  have hu39 := raw.nm e_z38 (hu35.na 7 864)
  obtain ⟨I37, e_I37, h⟩ := bnd h
  refine g_nmM e_I37 ?_
  refine pr0_8 hX (pc := 73) hu39 fl_X0_37 hnm rfl dX0_init_73 ?_
  obtain ⟨z40, e_z40, h⟩ := bnd h
  refine g_nmz e_z40 ?_
  have hu41 := raw.nm e_z40 (hu39.st o0 8 (some (zs z34)))
  refine g_aload_n hX (pc := 76) (i := 0) dX0_init_76 rfl 0 rfl ?_
  refine g_iconst hX (pc := 77) (v := 0) dX0_init_77 (by decide) ?_
  obtain ⟨I42, e_I42, h⟩ := bnd h
  refine pi0_9 hX (pc := 78) hu41 fl_X0_40 dX0_init_78 e_I42 ?_
  refine g_aload_n hX (pc := 81) (i := 0) dX0_init_81 rfl 0 rfl ?_
  refine g_iconst hX (pc := 82) (v := 0) dX0_init_82 (by decide) ?_
  obtain ⟨I43, e_I43, h⟩ := bnd h
  refine pi0_10 hX (pc := 83) hu41 fl_X0_43 dX0_init_83 e_I43 ?_
  refine g_aload_n hX (pc := 86) (i := 0) dX0_init_86 rfl 0 rfl ?_
  refine g_sipush hX (pc := 87) (v := 864) dX0_init_87 (by decide) ?_
  refine g_newA7 hX (pc := 90) hr0 (N := 864) (by decide) (by decide) (by decide) (by decide) dX0_init_90 ?_
  obtain ⟨z45, e_z45, h⟩ := bnd h
  refine g_nmz e_z45 ?_
  have hu46 := raw.nm e_z45 (hu41.na 7 864)
  obtain ⟨I44, e_I44, h⟩ := bnd h
  refine g_nmM e_I44 ?_
  refine pr0_11 hX (pc := 92) hu46 fl_X0_46 hnm rfl dX0_init_92 ?_
  obtain ⟨z47, e_z47, h⟩ := bnd h
  refine g_nmz e_z47 ?_
  have hu48 := raw.nm e_z47 (hu46.st o0 11 (some (zs z40)))
  refine g_aload_n hX (pc := 95) (i := 0) dX0_init_95 rfl 0 rfl ?_
  refine g_iconst hX (pc := 96) (v := 0) dX0_init_96 (by decide) ?_
  obtain ⟨I49, e_I49, h⟩ := bnd h
  refine pi0_12 hX (pc := 97) hu48 fl_X0_49 dX0_init_97 e_I49 ?_
  refine g_aload_n hX (pc := 100) (i := 0) dX0_init_100 rfl 0 rfl ?_
  obtain ⟨g50, e_g50, h⟩ := bnd h
  refine gf0_2 hX (pc := 101) (gd_some e_g50) fl_X0_18 dX0_init_101 ?_
  refine g_iconst hX (pc := 104) (v := (-1)) dX0_init_104 (by decide) ?_
  obtain ⟨r51, e_r51, h⟩ := bnd h
  refine g_callSv hX (pc := 105) (d := d + 0) hr0 [.ref (o0 + 3), .int ((-1))] (ct_J7_fill_53178 (d := d + 0) ⟨(s0_2 (gd_some e_g50)).1, (s0_2 (gd_some e_g50)).2.1, (s0_2 (gd_some e_g50)).2.2.1⟩ e_r51) co_J7_fill_53178 ml_X0_52 sta_J7_fill_53178 ini_J7 nm_J7_fill_53178 (by decide) (by decide) (Nat.le_refl _) (Nat.le_of_ble_eq_true rfl) rfl dX0_init_105 ?_
  refine g_aload_n hX (pc := 108) (i := 0) dX0_init_108 rfl 0 rfl ?_
  refine gf0_3 hX (pc := 109) (gd_some e_g50) fl_X0_21 dX0_init_109 ?_
  refine g_iconst hX (pc := 112) (v := (-1)) dX0_init_112 (by decide) ?_
  obtain ⟨r52, e_r52, h⟩ := bnd h
  refine g_callSv hX (pc := 113) (d := d + 0) hr0 [.ref (o0 + 4), .int ((-1))] (ct_J7_fill_53178 (d := d + 0) ⟨(s0_3 (gd_some e_g50)).1, (s0_3 (gd_some e_g50)).2.1, (s0_3 (gd_some e_g50)).2.2.1⟩ e_r52) co_J7_fill_53178 ml_X0_52 sta_J7_fill_53178 ini_J7 nm_J7_fill_53178 (by decide) (by decide) (Nat.le_refl _) (Nat.le_of_ble_eq_true rfl) rfl dX0_init_113 ?_
  replace h := Option.some.inj h
  obtain ⟨rfl, rfl⟩ := Prod.mk.inj h
  exact g_return hX (by decide) (by decide) dX0_init_116
noncomputable def f_X0_begin (o0 : Nat) (o1 : Nat) (I : MI) : Option (MI) :=
  (cpy 10 10 I (o1 + 3) 0 (o0 + 1) 0 10).bind fun I1 =>
  (f_J7_fill_53178 (o0 + 2) 16 0 I1).bind fun r2 =>
  (f_J7_fill_53178 (o0 + 3) 16 ((-1)) r2).bind fun r3 =>
  (f_J7_fill_53178 (o0 + 4) 8 ((-1)) r3).bind fun r4 =>
  (f_J7_fill_53178 (o0 + 5) 160 0 r4).bind fun r5 =>
  (f_J7_fill_53178 (o0 + 6) 160 0 r5).bind fun r6 =>
  (wf r6 o0 7 0).bind fun I7 =>
  (wf I7 o0 9 0).bind fun I8 =>
  (wf I8 o0 10 0).bind fun I9 =>
  (wf I9 o0 12 0).bind fun I10 =>
  some I10
theorem nm_X0_begin : yX0_begin.cls ≠ "java/lang/invoke/MethodHandle" ∧ yX0_begin.cls ≠ "java/lang/invoke/VarHandle" ∧ (parseMethodDescriptor yX0_begin.desc).map (fun d => d.parameters.length) = some 1 := by decide +kernel
set_option maxRecDepth 100000 in
set_option maxHeartbeats 4000000 in
theorem ct_X0_begin {E : Ev} {d : Nat} {z : Sh} {J : MJ} {I : MI} {o0 : Nat} {o1 : Nat} {Iz : MI} (ho0 : oX0 z o0) (ho1 : oX3 z o1) (h : f_X0_begin o0 o1 I = some Iz) : Ct E (d + 1) yX0_begin cX0_begin 2 none 0 0 [.ref o0, .ref o1] z J I none z J Iz := by
  unfold f_X0_begin at h
  refine Ct.of (own := RX0) (ls := [(0, .ref o0), (1, .ref o1)]) (by decide) rfl (Nat.le_of_ble_eq_true rfl) rfl ?_
  intro X hr0 hnm hX
  refine g_aload_n hX (pc := 0) (i := 1) dX0_begin_0 rfl 1 rfl ?_
  refine gf3_9 hX (pc := 1) ho1 fl_X0_58 dX0_begin_1 ?_
  refine g_iconst hX (pc := 4) (v := 0) dX0_begin_4 (by decide) ?_
  refine g_aload_n hX (pc := 5) (i := 0) dX0_begin_5 rfl 0 rfl ?_
  refine gf0_0 hX (pc := 6) ho0 fl_X0_9 dX0_begin_6 ?_
  refine g_iconst hX (pc := 9) (v := 0) dX0_begin_9 (by decide) ?_
  refine g_bipush hX (pc := 10) (v := 10) dX0_begin_10 (by decide) ?_
  obtain ⟨I1, e_I1, h⟩ := bnd h
  refine g_copyi (d := d + 0) hX (pc := 12) hr0 (s3_9 ho1).1 (s3_9 ho1).2.1 (s3_9 ho1).2.2.1 (s0_0 ho0).1 (s0_0 ho0).2.1 (s0_0 ho0).2.2.1 e_I1 ml_X0_63 (by exact Nat.le_of_ble_eq_true rfl) dX0_begin_12 ?_
  refine g_aload_n hX (pc := 15) (i := 0) dX0_begin_15 rfl 0 rfl ?_
  refine gf0_1 hX (pc := 16) ho0 fl_X0_15 dX0_begin_16 ?_
  refine g_iconst hX (pc := 19) (v := 0) dX0_begin_19 (by decide) ?_
  obtain ⟨r2, e_r2, h⟩ := bnd h
  refine g_callSv hX (pc := 20) (d := d + 0) hr0 [.ref (o0 + 2), .int 0] (ct_J7_fill_53178 (d := d + 0) ⟨(s0_1 ho0).1, (s0_1 ho0).2.1, (s0_1 ho0).2.2.1⟩ e_r2) co_J7_fill_53178 ml_X0_52 sta_J7_fill_53178 ini_J7 nm_J7_fill_53178 (by decide) ⟨Nat.le_refl _, Nat.le_refl _⟩ (Nat.le_refl _) (Nat.le_of_ble_eq_true rfl) rfl dX0_begin_20 ?_
  refine g_aload_n hX (pc := 23) (i := 0) dX0_begin_23 rfl 0 rfl ?_
  refine gf0_2 hX (pc := 24) ho0 fl_X0_18 dX0_begin_24 ?_
  refine g_iconst hX (pc := 27) (v := (-1)) dX0_begin_27 (by decide) ?_
  obtain ⟨r3, e_r3, h⟩ := bnd h
  refine g_callSv hX (pc := 28) (d := d + 0) hr0 [.ref (o0 + 3), .int ((-1))] (ct_J7_fill_53178 (d := d + 0) ⟨(s0_2 ho0).1, (s0_2 ho0).2.1, (s0_2 ho0).2.2.1⟩ e_r3) co_J7_fill_53178 ml_X0_52 sta_J7_fill_53178 ini_J7 nm_J7_fill_53178 (by decide) ⟨Nat.le_refl _, Nat.le_refl _⟩ (Nat.le_refl _) (Nat.le_of_ble_eq_true rfl) rfl dX0_begin_28 ?_
  refine g_aload_n hX (pc := 31) (i := 0) dX0_begin_31 rfl 0 rfl ?_
  refine gf0_3 hX (pc := 32) ho0 fl_X0_21 dX0_begin_32 ?_
  refine g_iconst hX (pc := 35) (v := (-1)) dX0_begin_35 (by decide) ?_
  obtain ⟨r4, e_r4, h⟩ := bnd h
  refine g_callSv hX (pc := 36) (d := d + 0) hr0 [.ref (o0 + 4), .int ((-1))] (ct_J7_fill_53178 (d := d + 0) ⟨(s0_3 ho0).1, (s0_3 ho0).2.1, (s0_3 ho0).2.2.1⟩ e_r4) co_J7_fill_53178 ml_X0_52 sta_J7_fill_53178 ini_J7 nm_J7_fill_53178 (by decide) ⟨Nat.le_refl _, Nat.le_refl _⟩ (Nat.le_refl _) (Nat.le_of_ble_eq_true rfl) rfl dX0_begin_36 ?_
  refine g_aload_n hX (pc := 39) (i := 0) dX0_begin_39 rfl 0 rfl ?_
  refine gf0_4 hX (pc := 40) ho0 fl_X0_24 dX0_begin_40 ?_
  refine g_iconst hX (pc := 43) (v := 0) dX0_begin_43 (by decide) ?_
  obtain ⟨r5, e_r5, h⟩ := bnd h
  refine g_callSv hX (pc := 44) (d := d + 0) hr0 [.ref (o0 + 5), .int 0] (ct_J7_fill_53178 (d := d + 0) ⟨(s0_4 ho0).1, (s0_4 ho0).2.1, (s0_4 ho0).2.2.1⟩ e_r5) co_J7_fill_53178 ml_X0_52 sta_J7_fill_53178 ini_J7 nm_J7_fill_53178 (by decide) ⟨Nat.le_refl _, Nat.le_refl _⟩ (Nat.le_refl _) (Nat.le_of_ble_eq_true rfl) rfl dX0_begin_44 ?_
  refine g_aload_n hX (pc := 47) (i := 0) dX0_begin_47 rfl 0 rfl ?_
  refine gf0_5 hX (pc := 48) ho0 fl_X0_27 dX0_begin_48 ?_
  refine g_iconst hX (pc := 51) (v := 0) dX0_begin_51 (by decide) ?_
  obtain ⟨r6, e_r6, h⟩ := bnd h
  refine g_callSv hX (pc := 52) (d := d + 0) hr0 [.ref (o0 + 6), .int 0] (ct_J7_fill_53178 (d := d + 0) ⟨(s0_5 ho0).1, (s0_5 ho0).2.1, (s0_5 ho0).2.2.1⟩ e_r6) co_J7_fill_53178 ml_X0_52 sta_J7_fill_53178 ini_J7 nm_J7_fill_53178 (by decide) ⟨Nat.le_refl _, Nat.le_refl _⟩ (Nat.le_refl _) (Nat.le_of_ble_eq_true rfl) rfl dX0_begin_52 ?_
  refine g_aload_n hX (pc := 55) (i := 0) dX0_begin_55 rfl 0 rfl ?_
  refine g_iconst hX (pc := 56) (v := 0) dX0_begin_56 (by decide) ?_
  obtain ⟨I7, e_I7, h⟩ := bnd h
  refine pf0_7 hX (pc := 57) ho0 fl_X0_33 dX0_begin_57 e_I7 ?_
  refine g_aload_n hX (pc := 60) (i := 0) dX0_begin_60 rfl 0 rfl ?_
  refine g_iconst hX (pc := 61) (v := 0) dX0_begin_61 (by decide) ?_
  obtain ⟨I8, e_I8, h⟩ := bnd h
  refine pf0_9 hX (pc := 62) ho0 fl_X0_40 dX0_begin_62 e_I8 ?_
  refine g_aload_n hX (pc := 65) (i := 0) dX0_begin_65 rfl 0 rfl ?_
  refine g_iconst hX (pc := 66) (v := 0) dX0_begin_66 (by decide) ?_
  obtain ⟨I9, e_I9, h⟩ := bnd h
  refine pf0_10 hX (pc := 67) ho0 fl_X0_43 dX0_begin_67 e_I9 ?_
  refine g_aload_n hX (pc := 70) (i := 0) dX0_begin_70 rfl 0 rfl ?_
  refine g_iconst hX (pc := 71) (v := 0) dX0_begin_71 (by decide) ?_
  obtain ⟨I10, e_I10, h⟩ := bnd h
  refine pf0_12 hX (pc := 72) ho0 fl_X0_49 dX0_begin_72 e_I10 ?_
  obtain rfl := Option.some.inj h
  exact g_return hX (Nat.le_refl _) (Nat.le_refl _) dX0_begin_75
noncomputable def b_X0_letGo_31 (o0 : Nat) (o1 : Nat) (o2 : Nat) (s1 : Int32) (s : Int32 × MI) : Option ((Int32 × MI) ⊕ (Int32 × MI)) :=
  if s.1 < (s.2 o1 6) then
    (f_X4_cell s1 s.1).bind fun r13 =>
    (rd 160 (s.2 (o1 + 6)) r13).bind fun v14 =>
    (rd 160 (s.2 (o2 + 3)) r13).bind fun v15 =>
    (wr 160 s.2 (o0 + 6) r13 (v14 - v15)).bind fun I16 =>
    some (.inl ((s.1 + 1, I16)))
  else
    some (.inr ((s.1, s.2)))
noncomputable def b_X0_letGo_2 (o0 : Nat) (o1 : Nat) (o2 : Nat) (s : Int32 × MI) : Option ((Int32 × MI) ⊕ (Int32 × MI)) :=
  if s.1 < (s.2 o1 10) then
    (f_X4_hasBit (s.2 o2 0) s.1).bind fun r5 =>
    (if r5 = 0 then
      some s.2
    else
      (wr 16 s.2 (o0 + 2) s.1 1).bind fun I8 =>
      (lp (b_X0_letGo_31 o0 o1 o2 s.1) ((0, I8))).bind fun p17 =>
      some p17.2).bind fun (p18 : MI) =>
    some (.inl ((s.1 + 1, p18)))
  else
    some (.inr ((s.1, s.2)))
noncomputable def b_X0_letGo_119 (o0 : Nat) (o1 : Nat) (o2 : Nat) (v24 : Int32) (s : Int32 × MI) : Option ((Int32 × MI) ⊕ (Int32 × MI)) :=
  if s.1 < (s.2 o1 10) then
    (rd 16 (s.2 (o1 + 9)) s.1).bind fun v32 =>
    (f_X4_cell v32 v24).bind fun r33 =>
    (rd 160 (s.2 (o2 + 3)) r33).bind fun v34 =>
    (f_X0_putOnBelt o0 r33 v34 s.2).bind fun r35 =>
    some (.inl ((s.1 + 1, r35)))
  else
    some (.inr ((s.1, s.2)))
noncomputable def b_X0_letGo_84 (o0 : Nat) (o1 : Nat) (o2 : Nat) (s : Int32 × MI) : Option ((Int32 × MI) ⊕ (Int32 × MI)) :=
  if s.1 < (s.2 o2 1) then
    (rd 10 (s.2 (o2 + 1)) s.1).bind fun v24 =>
    (rd 10 (s.2 (o0 + 1)) v24).bind fun v25 =>
    (rd 10 (s.2 (o2 + 2)) s.1).bind fun v26 =>
    (wr 10 s.2 (o0 + 1) v24 (v25 - v26)).bind fun I27 =>
    (lp (b_X0_letGo_119 o0 o1 o2 v24) ((0, I27))).bind fun p36 =>
    some (.inl ((s.1 + 1, p36.2)))
  else
    some (.inr ((s.1, s.2)))
noncomputable def f_X0_letGo (o0 : Nat) (o1 : Nat) (o2 : Nat) (I : MI) : Option (MI) :=
  (lp (b_X0_letGo_2 o0 o1 o2) ((0, I))).bind fun p19 =>
  (lp (b_X0_letGo_84 o0 o1 o2) ((0, p19.2))).bind fun p37 =>
  some p37.2
theorem nm_X0_letGo : yX0_letGo.cls ≠ "java/lang/invoke/MethodHandle" ∧ yX0_letGo.cls ≠ "java/lang/invoke/VarHandle" ∧ (parseMethodDescriptor yX0_letGo.desc).map (fun d => d.parameters.length) = some 2 := by decide +kernel
set_option maxRecDepth 100000 in
set_option maxHeartbeats 4000000 in
theorem ct_X0_letGo {E : Ev} {d : Nat} {z : Sh} {J : MJ} {I : MI} {o0 : Nat} {o1 : Nat} {o2 : Nat} {Iz : MI} (ho0 : oX0 z o0) (ho1 : oX3 z o1) (ho2 : oX1 z o2) (h : f_X0_letGo o0 o1 o2 I = some Iz) : Ct E (d + 1) yX0_letGo cX0_letGo 7 none 0 0 [.ref o0, .ref o1, .ref o2] z J I none z J Iz := by
  unfold f_X0_letGo at h
  refine Ct.of (own := RX0) (ls := [(0, .ref o0), (1, .ref o1), (2, .ref o2)]) (by decide) rfl (Nat.le_of_ble_eq_true rfl) rfl ?_
  intro X hr0 hnm hX
  refine g_iconst hX (pc := 0) (v := 0) dX0_letGo_0 (by decide) ?_
  refine g_istore_n hX (pc := 1) (i := 3) (ls' := [(0, .ref o0), (1, .ref o1), (2, .ref o2), (3, .int 0)]) [1, 2, 3, 0] dX0_letGo_1 rfl (by decide) rfl ?_
  obtain ⟨p19, hpl3, h⟩ := bnd h
  have Kl3 : ∀ ql3 : Int32 × MI, ql3 = p19 → GW E X (QX E X 0 0 none z J Iz) 7 82 [(0, .ref o0), (1, .ref o1), (2, .ref o2), (3, .int ql3.1)] [] z J ql3.2 0 0 := by
    intro ql3 hql3
    subst hql3
    refine g_iconst hX (pc := 82) (v := 0) dX0_letGo_82 (by decide) ?_
    refine g_istore_n hX (pc := 83) (i := 3) (ls' := [(0, .ref o0), (1, .ref o1), (2, .ref o2), (3, .int 0)]) [1, 2, 3, 0] dX0_letGo_83 rfl (by decide) rfl ?_
    obtain ⟨p37, hpl22, h⟩ := bnd h
    have Kl22 : ∀ ql22 : Int32 × MI, ql22 = p37 → GW E X (QX E X 0 0 none z J Iz) 7 167 [(0, .ref o0), (1, .ref o1), (2, .ref o2), (3, .int ql22.1)] [] z J ql22.2 0 0 := by
      intro ql22 hql22
      subst hql22
      obtain rfl := Option.some.inj h
      exact g_return hX (Nat.le_refl _) (Nat.le_refl _) dX0_letGo_167
    obtain ⟨kl22, hkl22⟩ := lp_ex hpl22
    clear hpl22 h
    have Ll22 : ∀ k : Nat, ∀ (s20 : Int32) (I21 : MI), lpN k (b_X0_letGo_84 o0 o1 o2) ((s20, I21)) = some p37 → GW E X (QX E X 0 0 none z J Iz) 7 84 [(0, .ref o0), (1, .ref o1), (2, .ref o2), (3, .int s20)] [] z J I21 0 0 := by
      intro k
      induction k with
      | zero => intro s20 I21 h; cases h
      | succ k ihl22 =>
        intro s20 I21 h
        obtain ⟨wl22, h, hwl22⟩ := lpN_s h
        unfold b_X0_letGo_84 at h
        try dsimp only at h
        refine g_iload_n hX (pc := 84) (i := 3) dX0_letGo_84 rfl 3 rfl ?_
        refine g_aload_n hX (pc := 85) (i := 2) dX0_letGo_85 rfl 2 rfl ?_
        refine gf1_1 hX (pc := 86) ho2 fl_X0_102 dX0_letGo_86 ?_
        refine g_icmp_ge hX (pc := 89) dX0_letGo_89 (tgt := 167) (by decide) (fun c23 => ?_) (fun c23 => ?_)
        · replace h := ifP c23 h
          refine g_aload_n hX (pc := 92) (i := 2) dX0_letGo_92 rfl 2 rfl ?_
          refine gf1_2 hX (pc := 93) ho2 fl_X0_105 dX0_letGo_93 ?_
          refine g_iload_n hX (pc := 96) (i := 3) dX0_letGo_96 rfl 3 rfl ?_
          obtain ⟨v24, e_v24, h⟩ := bnd h
          refine g_ialoadE hX (pc := 97) (s1_2 ho2).1 (s1_2 ho2).2.1 (s1_2 ho2).2.2.1 e_v24 dX0_letGo_97 ?_
          refine g_istore hX (pc := 98) (ls' := [(0, .ref o0), (1, .ref o1), (2, .ref o2), (3, .int s20), (4, .int v24)]) [1, 2, 3, 4, 0] dX0_letGo_98 (by decide) rfl ?_
          refine g_aload_n hX (pc := 100) (i := 0) dX0_letGo_100 rfl 0 rfl ?_
          refine gf0_0 hX (pc := 101) ho0 fl_X0_9 dX0_letGo_101 ?_
          refine g_iload hX (pc := 104) dX0_letGo_104 4 rfl ?_
          refine g_dup2 hX (pc := 106) dX0_letGo_106 rfl rfl ?_
          obtain ⟨v25, e_v25, h⟩ := bnd h
          refine g_ialoadE hX (pc := 107) (s0_0 ho0).1 (s0_0 ho0).2.1 (s0_0 ho0).2.2.1 e_v25 dX0_letGo_107 ?_
          refine g_aload_n hX (pc := 108) (i := 2) dX0_letGo_108 rfl 2 rfl ?_
          refine gf1_3 hX (pc := 109) ho2 fl_X0_108 dX0_letGo_109 ?_
          refine g_iload_n hX (pc := 112) (i := 3) dX0_letGo_112 rfl 3 rfl ?_
          obtain ⟨v26, e_v26, h⟩ := bnd h
          refine g_ialoadE hX (pc := 113) (s1_3 ho2).1 (s1_3 ho2).2.1 (s1_3 ho2).2.2.1 e_v26 dX0_letGo_113 ?_
          refine g_isub hX (pc := 114) dX0_letGo_114 ?_
          obtain ⟨I27, e_I27, h⟩ := bnd h
          refine g_iastoreE hX (pc := 115) (s0_0 ho0).1 (s0_0 ho0).2.1 (s0_0 ho0).2.2.1 e_I27 dX0_letGo_115 ?_
          refine g_iconst hX (pc := 116) (v := 0) dX0_letGo_116 (by decide) ?_
          refine g_istore hX (pc := 117) (ls' := [(0, .ref o0), (1, .ref o1), (2, .ref o2), (3, .int s20), (4, .int v24), (5, .int 0)]) [1, 2, 3, 4, 5, 0] dX0_letGo_117 (by decide) rfl ?_
          obtain ⟨p36, hpl30, h⟩ := bnd h
          have Kl30 : ∀ ql30 : Int32 × MI, ql30 = p36 → GW E X (QX E X 0 0 none z J Iz) 7 161 [(0, .ref o0), (1, .ref o1), (2, .ref o2), (3, .int s20), (4, .int v24), (5, .int ql30.1)] [] z J ql30.2 0 0 := by
            intro ql30 hql30
            subst hql30
            refine g_iinc hX (pc := 161) (i := 3) (v := s20 + 1) (ls' := [(0, .ref o0), (1, .ref o1), (2, .ref o2), (3, .int (s20 + 1)), (4, .int v24), (5, .int ql30.1)]) 3 [1, 2, 3, 0, 4, 5] dX0_letGo_161 rfl (by rfl) (by decide) rfl ?_
            refine g_goto hX (pc := 164) (tgt := 84) dX0_letGo_164 (by decide) ?_
            refine g_sub (ls' := [(0, .ref o0), (1, .ref o1), (2, .ref o2), (3, .int (s20 + 1))]) [0, 1, 2, 3] rfl ?_
            obtain rfl := Option.some.inj h
            exact ihl22 (s20 + 1) ql30.2 hwl22
          obtain ⟨kl30, hkl30⟩ := lp_ex hpl30
          clear hpl30 h
          have Ll30 : ∀ k : Nat, ∀ (s28 : Int32) (I29 : MI), lpN k (b_X0_letGo_119 o0 o1 o2 v24) ((s28, I29)) = some p36 → GW E X (QX E X 0 0 none z J Iz) 7 119 [(0, .ref o0), (1, .ref o1), (2, .ref o2), (3, .int s20), (4, .int v24), (5, .int s28)] [] z J I29 0 0 := by
            intro k
            induction k with
            | zero => intro s28 I29 h; cases h
            | succ k ihl30 =>
              intro s28 I29 h
              obtain ⟨wl30, h, hwl30⟩ := lpN_s h
              unfold b_X0_letGo_119 at h
              try dsimp only at h
              refine g_iload hX (pc := 119) dX0_letGo_119 5 rfl ?_
              refine g_aload_n hX (pc := 121) (i := 1) dX0_letGo_121 rfl 1 rfl ?_
              refine gf3_10 hX (pc := 122) ho1 fl_X0_69 dX0_letGo_122 ?_
              refine g_icmp_ge hX (pc := 125) dX0_letGo_125 (tgt := 161) (by decide) (fun c31 => ?_) (fun c31 => ?_)
              · replace h := ifP c31 h
                refine g_aload_n hX (pc := 128) (i := 1) dX0_letGo_128 rfl 1 rfl ?_
                refine gf3_16 hX (pc := 129) ho1 fl_X0_111 dX0_letGo_129 ?_
                refine g_iload hX (pc := 132) dX0_letGo_132 5 rfl ?_
                obtain ⟨v32, e_v32, h⟩ := bnd h
                refine g_ialoadE hX (pc := 134) (s3_16 ho1).1 (s3_16 ho1).2.1 (s3_16 ho1).2.2.1 e_v32 dX0_letGo_134 ?_
                refine g_iload hX (pc := 135) dX0_letGo_135 4 rfl ?_
                obtain ⟨r33, e_r33, h⟩ := bnd h
                refine g_callSNi hX (pc := 137) (d := d + 0) hr0 [.int v32, .int v24] (host := RX4) (ct_X4_cell (d := d + 0)  e_r33) co_X4_cell (by decide) sta_X4_cell ini_X4 nm_X4_cell (by decide) ⟨Nat.le_refl _, Nat.le_refl _⟩ (Nat.le_refl _) (Nat.le_of_ble_eq_true rfl) rfl dX0_letGo_137 ?_
                refine g_istore hX (pc := 140) (ls' := [(0, .ref o0), (1, .ref o1), (2, .ref o2), (3, .int s20), (4, .int v24), (5, .int s28), (6, .int r33)]) [1, 2, 3, 4, 5, 6, 0] dX0_letGo_140 (by decide) rfl ?_
                refine g_aload_n hX (pc := 142) (i := 0) dX0_letGo_142 rfl 0 rfl ?_
                refine g_iload hX (pc := 143) dX0_letGo_143 6 rfl ?_
                refine g_aload_n hX (pc := 145) (i := 2) dX0_letGo_145 rfl 2 rfl ?_
                refine gf1_4 hX (pc := 146) ho2 fl_X0_99 dX0_letGo_146 ?_
                refine g_iload hX (pc := 149) dX0_letGo_149 6 rfl ?_
                obtain ⟨v34, e_v34, h⟩ := bnd h
                refine g_ialoadE hX (pc := 151) (s1_4 ho2).1 (s1_4 ho2).2.1 (s1_4 ho2).2.2.1 e_v34 dX0_letGo_151 ?_
                obtain ⟨r35, e_r35, h⟩ := bnd h
                refine g_callVv hX (pc := 152) (d := d + 0) hr0 [.int r33, .int v34] (c := 0) (ct_X0_putOnBelt (d := d + 0) ho0 e_r35) ho0.1.1 ho0.1.2 (by decide) rfl co_X0_putOnBelt ml_X0_114 im_X0_putOnBelt sl_X0_putOnBelt ini_X0 nm_X0_putOnBelt (by decide) ⟨Nat.le_refl _, Nat.le_refl _⟩ (Nat.le_refl _) (Nat.le_of_ble_eq_true rfl) rfl dX0_letGo_152 ?_
                refine g_iinc hX (pc := 155) (i := 5) (v := s28 + 1) (ls' := [(0, .ref o0), (1, .ref o1), (2, .ref o2), (3, .int s20), (4, .int v24), (5, .int (s28 + 1)), (6, .int r33)]) 5 [1, 2, 3, 4, 5, 0, 6] dX0_letGo_155 rfl (by rfl) (by decide) rfl ?_
                refine g_goto hX (pc := 158) (tgt := 119) dX0_letGo_158 (by decide) ?_
                refine g_sub (ls' := [(0, .ref o0), (1, .ref o1), (2, .ref o2), (3, .int s20), (4, .int v24), (5, .int (s28 + 1))]) [0, 1, 2, 3, 4, 5] rfl ?_
                obtain rfl := Option.some.inj h
                exact ihl30 (s28 + 1) r35 hwl30
              · replace h := ifN c31 h
                obtain rfl := Option.some.inj h
                exact Kl30 ((s28, I29)) hwl30
          exact Ll30 kl30 0 I27 hkl30
        · replace h := ifN c23 h
          obtain rfl := Option.some.inj h
          exact Kl22 ((s20, I21)) hwl22
    exact Ll22 kl22 0 ql3.2 hkl22
  obtain ⟨kl3, hkl3⟩ := lp_ex hpl3
  clear hpl3 h
  have Ll3 : ∀ k : Nat, ∀ (s1 : Int32) (I2 : MI), lpN k (b_X0_letGo_2 o0 o1 o2) ((s1, I2)) = some p19 → GW E X (QX E X 0 0 none z J Iz) 7 2 [(0, .ref o0), (1, .ref o1), (2, .ref o2), (3, .int s1)] [] z J I2 0 0 := by
    intro k
    induction k with
    | zero => intro s1 I2 h; cases h
    | succ k ihl3 =>
      intro s1 I2 h
      obtain ⟨wl3, h, hwl3⟩ := lpN_s h
      unfold b_X0_letGo_2 at h
      try dsimp only at h
      refine g_iload_n hX (pc := 2) (i := 3) dX0_letGo_2 rfl 3 rfl ?_
      refine g_aload_n hX (pc := 3) (i := 1) dX0_letGo_3 rfl 1 rfl ?_
      refine gf3_10 hX (pc := 4) ho1 fl_X0_69 dX0_letGo_4 ?_
      refine g_icmp_ge hX (pc := 7) dX0_letGo_7 (tgt := 82) (by decide) (fun c4 => ?_) (fun c4 => ?_)
      · replace h := ifP c4 h
        refine g_aload_n hX (pc := 10) (i := 2) dX0_letGo_10 rfl 2 rfl ?_
        refine gf1_0 hX (pc := 11) ho2 fl_X0_86 dX0_letGo_11 ?_
        refine g_iload_n hX (pc := 14) (i := 3) dX0_letGo_14 rfl 3 rfl ?_
        obtain ⟨r5, e_r5, h⟩ := bnd h
        refine g_callSNi hX (pc := 15) (d := d + 0) hr0 [.int (I2 o2 0), .int s1] (host := RX4) (ct_X4_hasBit (d := d + 0)  e_r5) co_X4_hasBit (by decide) sta_X4_hasBit ini_X4 nm_X4_hasBit (by decide) ⟨Nat.le_refl _, Nat.le_refl _⟩ (Nat.le_refl _) (Nat.le_of_ble_eq_true rfl) rfl dX0_letGo_15 ?_
        obtain ⟨p18, hpj7, h⟩ := bnd h
        have Kj7 : ∀ qj7 : MI, qj7 = p18 → GW E X (QX E X 0 0 none z J Iz) 7 76 [(0, .ref o0), (1, .ref o1), (2, .ref o2), (3, .int s1)] [] z J qj7 0 0 := by
          intro qj7 hqj7
          subst hqj7
          refine g_iinc hX (pc := 76) (i := 3) (v := s1 + 1) (ls' := [(0, .ref o0), (1, .ref o1), (2, .ref o2), (3, .int (s1 + 1))]) 3 [1, 2, 3, 0] dX0_letGo_76 rfl (by rfl) (by decide) rfl ?_
          refine g_goto hX (pc := 79) (tgt := 2) dX0_letGo_79 (by decide) ?_
          obtain rfl := Option.some.inj h
          exact ihl3 (s1 + 1) qj7 hwl3
        replace h := hpj7
        clear hpj7
        refine g_if_eq hX (pc := 18) dX0_letGo_18 (tgt := 76) (by decide) (fun c6 => ?_) (fun c6 => ?_)
        · replace h := ifP c6 h
          exact Kj7 I2 (Option.some.inj h)
        · replace h := ifN c6 h
          refine g_aload_n hX (pc := 21) (i := 0) dX0_letGo_21 rfl 0 rfl ?_
          refine gf0_1 hX (pc := 22) ho0 fl_X0_15 dX0_letGo_22 ?_
          refine g_iload_n hX (pc := 25) (i := 3) dX0_letGo_25 rfl 3 rfl ?_
          refine g_iconst hX (pc := 26) (v := 1) dX0_letGo_26 (by decide) ?_
          obtain ⟨I8, e_I8, h⟩ := bnd h
          refine g_iastoreE hX (pc := 27) (s0_1 ho0).1 (s0_1 ho0).2.1 (s0_1 ho0).2.2.1 e_I8 dX0_letGo_27 ?_
          refine g_iconst hX (pc := 28) (v := 0) dX0_letGo_28 (by decide) ?_
          refine g_istore hX (pc := 29) (ls' := [(0, .ref o0), (1, .ref o1), (2, .ref o2), (3, .int s1), (4, .int 0)]) [1, 2, 3, 4, 0] dX0_letGo_29 (by decide) rfl ?_
          obtain ⟨p17, hpl11, h⟩ := bnd h
          have Kl11 : ∀ ql11 : Int32 × MI, ql11 = p17 → GW E X (QX E X 0 0 none z J Iz) 7 76 [(0, .ref o0), (1, .ref o1), (2, .ref o2), (3, .int s1), (4, .int ql11.1)] [] z J ql11.2 0 0 := by
            intro ql11 hql11
            subst hql11
            refine g_sub (ls' := [(0, .ref o0), (1, .ref o1), (2, .ref o2), (3, .int s1)]) [0, 1, 2, 3] rfl ?_
            exact Kj7 ql11.2 (Option.some.inj h)
          obtain ⟨kl11, hkl11⟩ := lp_ex hpl11
          clear hpl11 h
          have Ll11 : ∀ k : Nat, ∀ (s9 : Int32) (I10 : MI), lpN k (b_X0_letGo_31 o0 o1 o2 s1) ((s9, I10)) = some p17 → GW E X (QX E X 0 0 none z J Iz) 7 31 [(0, .ref o0), (1, .ref o1), (2, .ref o2), (3, .int s1), (4, .int s9)] [] z J I10 0 0 := by
            intro k
            induction k with
            | zero => intro s9 I10 h; cases h
            | succ k ihl11 =>
              intro s9 I10 h
              obtain ⟨wl11, h, hwl11⟩ := lpN_s h
              unfold b_X0_letGo_31 at h
              try dsimp only at h
              refine g_iload hX (pc := 31) dX0_letGo_31 4 rfl ?_
              refine g_aload_n hX (pc := 33) (i := 1) dX0_letGo_33 rfl 1 rfl ?_
              refine gf3_6 hX (pc := 34) ho1 fl_X0_93 dX0_letGo_34 ?_
              refine g_icmp_ge hX (pc := 37) dX0_letGo_37 (tgt := 76) (by decide) (fun c12 => ?_) (fun c12 => ?_)
              · replace h := ifP c12 h
                refine g_iload_n hX (pc := 40) (i := 3) dX0_letGo_40 rfl 3 rfl ?_
                refine g_iload hX (pc := 41) dX0_letGo_41 4 rfl ?_
                obtain ⟨r13, e_r13, h⟩ := bnd h
                refine g_callSNi hX (pc := 43) (d := d + 0) hr0 [.int s1, .int s9] (host := RX4) (ct_X4_cell (d := d + 0)  e_r13) co_X4_cell (by decide) sta_X4_cell ini_X4 nm_X4_cell (by decide) ⟨Nat.le_refl _, Nat.le_refl _⟩ (Nat.le_refl _) (Nat.le_of_ble_eq_true rfl) rfl dX0_letGo_43 ?_
                refine g_istore hX (pc := 46) (ls' := [(0, .ref o0), (1, .ref o1), (2, .ref o2), (3, .int s1), (4, .int s9), (5, .int r13)]) [1, 2, 3, 4, 5, 0] dX0_letGo_46 (by decide) rfl ?_
                refine g_aload_n hX (pc := 48) (i := 0) dX0_letGo_48 rfl 0 rfl ?_
                refine gf0_5 hX (pc := 49) ho0 fl_X0_27 dX0_letGo_49 ?_
                refine g_iload hX (pc := 52) dX0_letGo_52 5 rfl ?_
                refine g_aload_n hX (pc := 54) (i := 1) dX0_letGo_54 rfl 1 rfl ?_
                refine gf3_13 hX (pc := 55) ho1 fl_X0_96 dX0_letGo_55 ?_
                refine g_iload hX (pc := 58) dX0_letGo_58 5 rfl ?_
                obtain ⟨v14, e_v14, h⟩ := bnd h
                refine g_ialoadE hX (pc := 60) (s3_13 ho1).1 (s3_13 ho1).2.1 (s3_13 ho1).2.2.1 e_v14 dX0_letGo_60 ?_
                refine g_aload_n hX (pc := 61) (i := 2) dX0_letGo_61 rfl 2 rfl ?_
                refine gf1_4 hX (pc := 62) ho2 fl_X0_99 dX0_letGo_62 ?_
                refine g_iload hX (pc := 65) dX0_letGo_65 5 rfl ?_
                obtain ⟨v15, e_v15, h⟩ := bnd h
                refine g_ialoadE hX (pc := 67) (s1_4 ho2).1 (s1_4 ho2).2.1 (s1_4 ho2).2.2.1 e_v15 dX0_letGo_67 ?_
                refine g_isub hX (pc := 68) dX0_letGo_68 ?_
                obtain ⟨I16, e_I16, h⟩ := bnd h
                refine g_iastoreE hX (pc := 69) (s0_5 ho0).1 (s0_5 ho0).2.1 (s0_5 ho0).2.2.1 e_I16 dX0_letGo_69 ?_
                refine g_iinc hX (pc := 70) (i := 4) (v := s9 + 1) (ls' := [(0, .ref o0), (1, .ref o1), (2, .ref o2), (3, .int s1), (4, .int (s9 + 1)), (5, .int r13)]) 4 [1, 2, 3, 4, 0, 5] dX0_letGo_70 rfl (by rfl) (by decide) rfl ?_
                refine g_goto hX (pc := 73) (tgt := 31) dX0_letGo_73 (by decide) ?_
                refine g_sub (ls' := [(0, .ref o0), (1, .ref o1), (2, .ref o2), (3, .int s1), (4, .int (s9 + 1))]) [0, 1, 2, 3, 4] rfl ?_
                obtain rfl := Option.some.inj h
                exact ihl11 (s9 + 1) I16 hwl11
              · replace h := ifN c12 h
                obtain rfl := Option.some.inj h
                exact Kl11 ((s9, I10)) hwl11
          exact Ll11 kl11 0 I8 hkl11
      · replace h := ifN c4 h
        obtain rfl := Option.some.inj h
        exact Kl3 ((s1, I2)) hwl3
  exact Ll3 kl3 0 I hkl3
noncomputable def b_X0_bringStock_25 (o0 : Nat) (o1 : Nat) (x2 : Int32) (s : Int32 × Int32 × MI) : Option ((Int32 × Int32 × MI) ⊕ (Int32 × Int32 × MI)) :=
  if s.2.1 < (s.2.2 o1 10) then
    (rd 16 (s.2.2 (o1 + 9)) s.2.1).bind fun v8 =>
    (f_X4_cell v8 x2).bind fun r9 =>
    (rd 160 (s.2.2 (o0 + 6)) r9).bind fun v10 =>
    (rd 10 (s.2.2 (o0 + 1)) x2).bind fun v11 =>
    (rd 160 (s.2.2 (o0 + 6)) r9).bind fun v12 =>
    (wr 160 s.2.2 (o0 + 6) r9 (v12 - (imin v10 v11))).bind fun I13 =>
    (rd 10 (I13 (o0 + 1)) x2).bind fun v14 =>
    (wr 10 I13 (o0 + 1) x2 (v14 - (imin v10 v11))).bind fun I15 =>
    (f_X0_putOnBelt o0 r9 (imin v10 v11) I15).bind fun r16 =>
    some (.inl ((s.1 + (imin v10 v11), s.2.1 + 1, r16)))
  else
    some (.inr ((s.1, s.2.1, s.2.2)))
noncomputable def f_X0_bringStock (o0 : Nat) (o1 : Nat) (x2 : Int32) (x3 : Int32) (I : MI) : Option (Int32 × MI) :=
  (rd 10 (I (o0 + 1)) x2).bind fun v1 =>
  (wr 10 I (o0 + 1) x2 (imin (v1 + x3) 99)).bind fun I2 =>
  (lp (b_X0_bringStock_25 o0 o1 x2) ((0, 0, I2))).bind fun p17 =>
  some ((p17.1, p17.2.2))
theorem nm_X0_bringStock : yX0_bringStock.cls ≠ "java/lang/invoke/MethodHandle" ∧ yX0_bringStock.cls ≠ "java/lang/invoke/VarHandle" ∧ (parseMethodDescriptor yX0_bringStock.desc).map (fun d => d.parameters.length) = some 3 := by decide +kernel
set_option maxRecDepth 100000 in
set_option maxHeartbeats 4000000 in
theorem ct_X0_bringStock {E : Ev} {d : Nat} {z : Sh} {J : MJ} {I : MI} {o0 : Nat} {o1 : Nat} {x2 : Int32} {x3 : Int32} {rr : Int32} {Iz : MI} (ho0 : oX0 z o0) (ho1 : oX3 z o1) (h : f_X0_bringStock o0 o1 x2 x3 I = some ((rr, Iz))) : Ct E (d + 1) yX0_bringStock cX0_bringStock 8 (some .int) 0 0 [.ref o0, .ref o1, .int x2, .int x3] z J I (some (.int rr)) z J Iz := by
  unfold f_X0_bringStock at h
  refine Ct.of (own := RX0) (ls := [(0, .ref o0), (1, .ref o1), (2, .int x2), (3, .int x3)]) (by decide) rfl (Nat.le_of_ble_eq_true rfl) rfl ?_
  intro X hr0 hnm hX
  refine g_aload_n hX (pc := 0) (i := 0) dX0_bringStock_0 rfl 0 rfl ?_
  refine gf0_0 hX (pc := 1) ho0 fl_X0_9 dX0_bringStock_1 ?_
  refine g_iload_n hX (pc := 4) (i := 2) dX0_bringStock_4 rfl 2 rfl ?_
  refine g_aload_n hX (pc := 5) (i := 0) dX0_bringStock_5 rfl 0 rfl ?_
  refine gf0_0 hX (pc := 6) ho0 fl_X0_9 dX0_bringStock_6 ?_
  refine g_iload_n hX (pc := 9) (i := 2) dX0_bringStock_9 rfl 2 rfl ?_
  obtain ⟨v1, e_v1, h⟩ := bnd h
  refine g_ialoadE hX (pc := 10) (s0_0 ho0).1 (s0_0 ho0).2.1 (s0_0 ho0).2.2.1 e_v1 dX0_bringStock_10 ?_
  refine g_iload_n hX (pc := 11) (i := 3) dX0_bringStock_11 rfl 3 rfl ?_
  refine g_iadd hX (pc := 12) dX0_bringStock_12 ?_
  refine g_bipush hX (pc := 13) (v := 99) dX0_bringStock_13 (by decide) ?_
  refine g_mmin (d := d + 0) hX (pc := 15) hr0 ml_X0_137 (by exact Nat.le_of_ble_eq_true rfl) ⟨Nat.zero_le _, Nat.zero_le _⟩ dX0_bringStock_15 ?_
  obtain ⟨I2, e_I2, h⟩ := bnd h
  refine g_iastoreE hX (pc := 18) (s0_0 ho0).1 (s0_0 ho0).2.1 (s0_0 ho0).2.2.1 e_I2 dX0_bringStock_18 ?_
  refine g_iconst hX (pc := 19) (v := 0) dX0_bringStock_19 (by decide) ?_
  refine g_istore hX (pc := 20) (ls' := [(0, .ref o0), (1, .ref o1), (2, .int x2), (3, .int x3), (4, .int 0)]) [1, 2, 3, 4, 0] dX0_bringStock_20 (by decide) rfl ?_
  refine g_iconst hX (pc := 22) (v := 0) dX0_bringStock_22 (by decide) ?_
  refine g_istore hX (pc := 23) (ls' := [(0, .ref o0), (1, .ref o1), (2, .int x2), (3, .int x3), (4, .int 0), (5, .int 0)]) [1, 2, 3, 4, 5, 0] dX0_bringStock_23 (by decide) rfl ?_
  obtain ⟨p17, hpl6, h⟩ := bnd h
  have Kl6 : ∀ ql6 : Int32 × Int32 × MI, ql6 = p17 → GW E X (QX E X 0 0 (some (.int rr)) z J Iz) 8 109 [(0, .ref o0), (1, .ref o1), (2, .int x2), (3, .int x3), (4, .int ql6.1), (5, .int ql6.2.1)] [] z J ql6.2.2 0 0 := by
    intro ql6 hql6
    subst hql6
    refine g_iload hX (pc := 109) dX0_bringStock_109 4 rfl ?_
    replace h := Option.some.inj h
    obtain ⟨rfl, rfl⟩ := Prod.mk.inj h
    exact g_ireturn hX (Nat.le_refl _) (Nat.le_refl _) dX0_bringStock_111
  obtain ⟨kl6, hkl6⟩ := lp_ex hpl6
  clear hpl6 h
  have Ll6 : ∀ k : Nat, ∀ (s3 : Int32) (s4 : Int32) (I5 : MI), lpN k (b_X0_bringStock_25 o0 o1 x2) ((s3, s4, I5)) = some p17 → GW E X (QX E X 0 0 (some (.int rr)) z J Iz) 8 25 [(0, .ref o0), (1, .ref o1), (2, .int x2), (3, .int x3), (4, .int s3), (5, .int s4)] [] z J I5 0 0 := by
    intro k
    induction k with
    | zero => intro s3 s4 I5 h; cases h
    | succ k ihl6 =>
      intro s3 s4 I5 h
      obtain ⟨wl6, h, hwl6⟩ := lpN_s h
      unfold b_X0_bringStock_25 at h
      try dsimp only at h
      refine g_iload hX (pc := 25) dX0_bringStock_25 5 rfl ?_
      refine g_aload_n hX (pc := 27) (i := 1) dX0_bringStock_27 rfl 1 rfl ?_
      refine gf3_10 hX (pc := 28) ho1 fl_X0_69 dX0_bringStock_28 ?_
      refine g_icmp_ge hX (pc := 31) dX0_bringStock_31 (tgt := 109) (by decide) (fun c7 => ?_) (fun c7 => ?_)
      · replace h := ifP c7 h
        refine g_aload_n hX (pc := 34) (i := 1) dX0_bringStock_34 rfl 1 rfl ?_
        refine gf3_16 hX (pc := 35) ho1 fl_X0_111 dX0_bringStock_35 ?_
        refine g_iload hX (pc := 38) dX0_bringStock_38 5 rfl ?_
        obtain ⟨v8, e_v8, h⟩ := bnd h
        refine g_ialoadE hX (pc := 40) (s3_16 ho1).1 (s3_16 ho1).2.1 (s3_16 ho1).2.2.1 e_v8 dX0_bringStock_40 ?_
        refine g_iload_n hX (pc := 41) (i := 2) dX0_bringStock_41 rfl 2 rfl ?_
        obtain ⟨r9, e_r9, h⟩ := bnd h
        refine g_callSNi hX (pc := 42) (d := d + 0) hr0 [.int v8, .int x2] (host := RX4) (ct_X4_cell (d := d + 0)  e_r9) co_X4_cell (by decide) sta_X4_cell ini_X4 nm_X4_cell (by decide) ⟨Nat.le_refl _, Nat.le_refl _⟩ (Nat.le_refl _) (Nat.le_of_ble_eq_true rfl) rfl dX0_bringStock_42 ?_
        refine g_istore hX (pc := 45) (ls' := [(0, .ref o0), (1, .ref o1), (2, .int x2), (3, .int x3), (4, .int s3), (5, .int s4), (6, .int r9)]) [1, 2, 3, 4, 5, 6, 0] dX0_bringStock_45 (by decide) rfl ?_
        refine g_aload_n hX (pc := 47) (i := 0) dX0_bringStock_47 rfl 0 rfl ?_
        refine gf0_5 hX (pc := 48) ho0 fl_X0_27 dX0_bringStock_48 ?_
        refine g_iload hX (pc := 51) dX0_bringStock_51 6 rfl ?_
        obtain ⟨v10, e_v10, h⟩ := bnd h
        refine g_ialoadE hX (pc := 53) (s0_5 ho0).1 (s0_5 ho0).2.1 (s0_5 ho0).2.2.1 e_v10 dX0_bringStock_53 ?_
        refine g_aload_n hX (pc := 54) (i := 0) dX0_bringStock_54 rfl 0 rfl ?_
        refine gf0_0 hX (pc := 55) ho0 fl_X0_9 dX0_bringStock_55 ?_
        refine g_iload_n hX (pc := 58) (i := 2) dX0_bringStock_58 rfl 2 rfl ?_
        obtain ⟨v11, e_v11, h⟩ := bnd h
        refine g_ialoadE hX (pc := 59) (s0_0 ho0).1 (s0_0 ho0).2.1 (s0_0 ho0).2.2.1 e_v11 dX0_bringStock_59 ?_
        refine g_mmin (d := d + 0) hX (pc := 60) hr0 ml_X0_137 (by exact Nat.le_of_ble_eq_true rfl) ⟨Nat.zero_le _, Nat.zero_le _⟩ dX0_bringStock_60 ?_
        refine g_istore hX (pc := 63) (ls' := [(0, .ref o0), (1, .ref o1), (2, .int x2), (3, .int x3), (4, .int s3), (5, .int s4), (6, .int r9), (7, .int (imin v10 v11))]) [1, 2, 3, 4, 5, 6, 7, 0] dX0_bringStock_63 (by decide) rfl ?_
        refine g_aload_n hX (pc := 65) (i := 0) dX0_bringStock_65 rfl 0 rfl ?_
        refine gf0_5 hX (pc := 66) ho0 fl_X0_27 dX0_bringStock_66 ?_
        refine g_iload hX (pc := 69) dX0_bringStock_69 6 rfl ?_
        refine g_dup2 hX (pc := 71) dX0_bringStock_71 rfl rfl ?_
        obtain ⟨v12, e_v12, h⟩ := bnd h
        refine g_ialoadE hX (pc := 72) (s0_5 ho0).1 (s0_5 ho0).2.1 (s0_5 ho0).2.2.1 e_v12 dX0_bringStock_72 ?_
        refine g_iload hX (pc := 73) dX0_bringStock_73 7 rfl ?_
        refine g_isub hX (pc := 75) dX0_bringStock_75 ?_
        obtain ⟨I13, e_I13, h⟩ := bnd h
        refine g_iastoreE hX (pc := 76) (s0_5 ho0).1 (s0_5 ho0).2.1 (s0_5 ho0).2.2.1 e_I13 dX0_bringStock_76 ?_
        refine g_aload_n hX (pc := 77) (i := 0) dX0_bringStock_77 rfl 0 rfl ?_
        refine gf0_0 hX (pc := 78) ho0 fl_X0_9 dX0_bringStock_78 ?_
        refine g_iload_n hX (pc := 81) (i := 2) dX0_bringStock_81 rfl 2 rfl ?_
        refine g_dup2 hX (pc := 82) dX0_bringStock_82 rfl rfl ?_
        obtain ⟨v14, e_v14, h⟩ := bnd h
        refine g_ialoadE hX (pc := 83) (s0_0 ho0).1 (s0_0 ho0).2.1 (s0_0 ho0).2.2.1 e_v14 dX0_bringStock_83 ?_
        refine g_iload hX (pc := 84) dX0_bringStock_84 7 rfl ?_
        refine g_isub hX (pc := 86) dX0_bringStock_86 ?_
        obtain ⟨I15, e_I15, h⟩ := bnd h
        refine g_iastoreE hX (pc := 87) (s0_0 ho0).1 (s0_0 ho0).2.1 (s0_0 ho0).2.2.1 e_I15 dX0_bringStock_87 ?_
        refine g_aload_n hX (pc := 88) (i := 0) dX0_bringStock_88 rfl 0 rfl ?_
        refine g_iload hX (pc := 89) dX0_bringStock_89 6 rfl ?_
        refine g_iload hX (pc := 91) dX0_bringStock_91 7 rfl ?_
        obtain ⟨r16, e_r16, h⟩ := bnd h
        refine g_callVv hX (pc := 93) (d := d + 0) hr0 [.int r9, .int (imin v10 v11)] (c := 0) (ct_X0_putOnBelt (d := d + 0) ho0 e_r16) ho0.1.1 ho0.1.2 (by decide) rfl co_X0_putOnBelt ml_X0_114 im_X0_putOnBelt sl_X0_putOnBelt ini_X0 nm_X0_putOnBelt (by decide) ⟨Nat.le_refl _, Nat.le_refl _⟩ (Nat.le_refl _) (Nat.le_of_ble_eq_true rfl) rfl dX0_bringStock_93 ?_
        refine g_iload hX (pc := 96) dX0_bringStock_96 4 rfl ?_
        refine g_iload hX (pc := 98) dX0_bringStock_98 7 rfl ?_
        refine g_iadd hX (pc := 100) dX0_bringStock_100 ?_
        refine g_istore hX (pc := 101) (ls' := [(0, .ref o0), (1, .ref o1), (2, .int x2), (3, .int x3), (4, .int (s3 + (imin v10 v11))), (5, .int s4), (6, .int r9), (7, .int (imin v10 v11))]) [1, 2, 3, 4, 0, 5, 6, 7] dX0_bringStock_101 (by decide) rfl ?_
        refine g_iinc hX (pc := 103) (i := 5) (v := s4 + 1) (ls' := [(0, .ref o0), (1, .ref o1), (2, .int x2), (3, .int x3), (4, .int (s3 + (imin v10 v11))), (5, .int (s4 + 1)), (6, .int r9), (7, .int (imin v10 v11))]) 5 [1, 2, 3, 4, 5, 0, 6, 7] dX0_bringStock_103 rfl (by rfl) (by decide) rfl ?_
        refine g_goto hX (pc := 106) (tgt := 25) dX0_bringStock_106 (by decide) ?_
        refine g_sub (ls' := [(0, .ref o0), (1, .ref o1), (2, .int x2), (3, .int x3), (4, .int (s3 + (imin v10 v11))), (5, .int (s4 + 1))]) [0, 1, 2, 3, 4, 5] rfl ?_
        obtain rfl := Option.some.inj h
        exact ihl6 (s3 + (imin v10 v11)) (s4 + 1) r16 hwl6
      · replace h := ifN c7 h
        obtain rfl := Option.some.inj h
        exact Kl6 ((s3, s4, I5)) hwl6
  exact Ll6 kl6 0 0 I2 hkl6
noncomputable def f_X0_come (o0 : Nat) (o1 : Nat) (x2 : Int32) (I : MI) : Option (Int32 × MI) :=
  (f_X4_orderOfUnit x2).bind fun r1 =>
  (rd 16 (I (o0 + 2)) r1).bind fun v2 =>
  (if v2 = 1 then
    (f_X0_firstFreeHole o0 o1 I).bind fun r5 =>
    (f_X0_takeHole o0 r1 r5 I).bind fun r6 =>
    some r6
  else
    some I).bind fun (p7 : MI) =>
  (rd 160 (p7 (o0 + 5)) x2).bind fun v8 =>
  (wr 160 p7 (o0 + 5) x2 (v8 + 1)).bind fun I9 =>
  (f_X4_sumOfOrder (o0 + 5) 160 r1 I9).bind fun r10 =>
  (rd 16 (I9 (o1 + 7)) r1).bind fun v11 =>
  if r10 < v11 then
    some ((0, I9))
  else
    (wr 16 I9 (o0 + 2) r1 4).bind fun I13 =>
    (if (I13 o0 7) < 16 then
      (wr 16 I13 (o0 + 7) (I13 o0 7) r1).bind fun I16 =>
      (wf I16 o0 7 ((I16 o0 7) + 1)).bind fun I17 =>
      some I17
    else
      some I13).bind fun (p18 : MI) =>
    (f_X0_leaveHole o0 r1 p18).bind fun r19 =>
    (gb r19.1).bind fun b20 =>
    some ((r19.1, r19.2))
theorem nm_X0_come : yX0_come.cls ≠ "java/lang/invoke/MethodHandle" ∧ yX0_come.cls ≠ "java/lang/invoke/VarHandle" ∧ (parseMethodDescriptor yX0_come.desc).map (fun d => d.parameters.length) = some 2 := by decide +kernel
set_option maxRecDepth 100000 in
set_option maxHeartbeats 4000000 in
theorem ct_X0_come {E : Ev} {d : Nat} {z : Sh} {J : MJ} {I : MI} {o0 : Nat} {o1 : Nat} {x2 : Int32} {rr : Int32} {Iz : MI} (ho0 : oX0 z o0) (ho1 : oX3 z o1) (h : f_X0_come o0 o1 x2 I = some ((rr, Iz))) : Ct E (d + 2) yX0_come cX0_come 4 (some .boolean) 0 0 [.ref o0, .ref o1, .int x2] z J I (some (.int rr)) z J Iz := by
  unfold f_X0_come at h
  refine Ct.of (own := RX0) (ls := [(0, .ref o0), (1, .ref o1), (2, .int x2)]) (by decide) rfl (Nat.le_of_ble_eq_true rfl) rfl ?_
  intro X hr0 hnm hX
  refine g_iload_n hX (pc := 0) (i := 2) dX0_come_0 rfl 2 rfl ?_
  obtain ⟨r1, e_r1, h⟩ := bnd h
  refine g_callSNi hX (pc := 1) (d := d + 1) hr0 [.int x2] (host := RX4) (ct_X4_orderOfUnit (d := d + 1)  e_r1) co_X4_orderOfUnit (by decide) sta_X4_orderOfUnit ini_X4 nm_X4_orderOfUnit (by decide) ⟨Nat.le_refl _, Nat.le_refl _⟩ (Nat.le_refl _) (Nat.le_of_ble_eq_true rfl) rfl dX0_come_1 ?_
  refine g_istore_n hX (pc := 4) (i := 3) (ls' := [(0, .ref o0), (1, .ref o1), (2, .int x2), (3, .int r1)]) [1, 2, 3, 0] dX0_come_4 rfl (by decide) rfl ?_
  refine g_aload_n hX (pc := 5) (i := 0) dX0_come_5 rfl 0 rfl ?_
  refine gf0_1 hX (pc := 6) ho0 fl_X0_15 dX0_come_6 ?_
  refine g_iload_n hX (pc := 9) (i := 3) dX0_come_9 rfl 3 rfl ?_
  obtain ⟨v2, e_v2, h⟩ := bnd h
  refine g_ialoadE hX (pc := 10) (s0_1 ho0).1 (s0_1 ho0).2.1 (s0_1 ho0).2.2.1 e_v2 dX0_come_10 ?_
  refine g_iconst hX (pc := 11) (v := 1) dX0_come_11 (by decide) ?_
  obtain ⟨p7, hpj4, h⟩ := bnd h
  have Kj4 : ∀ qj4 : MI, qj4 = p7 → GW E X (QX E X 0 0 (some (.int rr)) z J Iz) 4 25 [(0, .ref o0), (1, .ref o1), (2, .int x2), (3, .int r1)] [] z J qj4 0 0 := by
    intro qj4 hqj4
    subst hqj4
    refine g_aload_n hX (pc := 25) (i := 0) dX0_come_25 rfl 0 rfl ?_
    refine gf0_4 hX (pc := 26) ho0 fl_X0_24 dX0_come_26 ?_
    refine g_iload_n hX (pc := 29) (i := 2) dX0_come_29 rfl 2 rfl ?_
    refine g_dup2 hX (pc := 30) dX0_come_30 rfl rfl ?_
    obtain ⟨v8, e_v8, h⟩ := bnd h
    refine g_ialoadE hX (pc := 31) (s0_4 ho0).1 (s0_4 ho0).2.1 (s0_4 ho0).2.2.1 e_v8 dX0_come_31 ?_
    refine g_iconst hX (pc := 32) (v := 1) dX0_come_32 (by decide) ?_
    refine g_iadd hX (pc := 33) dX0_come_33 ?_
    obtain ⟨I9, e_I9, h⟩ := bnd h
    refine g_iastoreE hX (pc := 34) (s0_4 ho0).1 (s0_4 ho0).2.1 (s0_4 ho0).2.2.1 e_I9 dX0_come_34 ?_
    refine g_aload_n hX (pc := 35) (i := 0) dX0_come_35 rfl 0 rfl ?_
    refine gf0_4 hX (pc := 36) ho0 fl_X0_24 dX0_come_36 ?_
    refine g_iload_n hX (pc := 39) (i := 3) dX0_come_39 rfl 3 rfl ?_
    obtain ⟨r10, e_r10, h⟩ := bnd h
    refine g_callSNi hX (pc := 40) (d := d + 1) hr0 [.ref (o0 + 5), .int r1] (host := RX4) (ct_X4_sumOfOrder (d := d + 0) ⟨(s0_4 ho0).1, (s0_4 ho0).2.1, (s0_4 ho0).2.2.1⟩ e_r10) co_X4_sumOfOrder (by decide) sta_X4_sumOfOrder ini_X4 nm_X4_sumOfOrder (by decide) ⟨Nat.le_refl _, Nat.le_refl _⟩ (Nat.le_refl _) (Nat.le_of_ble_eq_true rfl) rfl dX0_come_40 ?_
    refine g_aload_n hX (pc := 43) (i := 1) dX0_come_43 rfl 1 rfl ?_
    refine gf3_14 hX (pc := 44) ho1 fl_X0_83 dX0_come_44 ?_
    refine g_iload_n hX (pc := 47) (i := 3) dX0_come_47 rfl 3 rfl ?_
    obtain ⟨v11, e_v11, h⟩ := bnd h
    refine g_ialoadE hX (pc := 48) (s3_14 ho1).1 (s3_14 ho1).2.1 (s3_14 ho1).2.2.1 e_v11 dX0_come_48 ?_
    refine g_icmp_ge hX (pc := 49) dX0_come_49 (tgt := 54) (by decide) (fun c12 => ?_) (fun c12 => ?_)
    · replace h := ifP c12 h
      refine g_iconst hX (pc := 52) (v := 0) dX0_come_52 (by decide) ?_
      replace h := Option.some.inj h
      obtain ⟨rfl, rfl⟩ := Prod.mk.inj h
      exact g_zreturn hX (Or.inl rfl) (Nat.le_refl _) (Nat.le_refl _) dX0_come_53
    · replace h := ifN c12 h
      refine g_aload_n hX (pc := 54) (i := 0) dX0_come_54 rfl 0 rfl ?_
      refine gf0_1 hX (pc := 55) ho0 fl_X0_15 dX0_come_55 ?_
      refine g_iload_n hX (pc := 58) (i := 3) dX0_come_58 rfl 3 rfl ?_
      refine g_iconst hX (pc := 59) (v := 4) dX0_come_59 (by decide) ?_
      obtain ⟨I13, e_I13, h⟩ := bnd h
      refine g_iastoreE hX (pc := 60) (s0_1 ho0).1 (s0_1 ho0).2.1 (s0_1 ho0).2.2.1 e_I13 dX0_come_60 ?_
      refine g_aload_n hX (pc := 61) (i := 0) dX0_come_61 rfl 0 rfl ?_
      refine gf0_7 hX (pc := 62) ho0 fl_X0_33 dX0_come_62 ?_
      refine g_bipush hX (pc := 65) (v := 16) dX0_come_65 (by decide) ?_
      obtain ⟨p18, hpj15, h⟩ := bnd h
      have Kj15 : ∀ qj15 : MI, qj15 = p18 → GW E X (QX E X 0 0 (some (.int rr)) z J Iz) 4 90 [(0, .ref o0), (1, .ref o1), (2, .int x2), (3, .int r1)] [] z J qj15 0 0 := by
        intro qj15 hqj15
        subst hqj15
        refine g_aload_n hX (pc := 90) (i := 0) dX0_come_90 rfl 0 rfl ?_
        refine g_iload_n hX (pc := 91) (i := 3) dX0_come_91 rfl 3 rfl ?_
        obtain ⟨r19, e_r19, h⟩ := bnd h
        refine g_callVi hX (pc := 92) (d := d + 1) hr0 [.int r1] (c := 0) (ct_X0_leaveHole (d := d + 1) ho0 e_r19) ho0.1.1 ho0.1.2 (by decide) rfl co_X0_leaveHole ml_X0_142 im_X0_leaveHole sl_X0_leaveHole ini_X0 nm_X0_leaveHole (by decide) ⟨Nat.le_refl _, Nat.le_refl _⟩ (Nat.le_refl _) (Nat.le_of_ble_eq_true rfl) rfl dX0_come_92 ?_
        obtain ⟨b20, e_b20, h⟩ := bnd h
        replace h := Option.some.inj h
        obtain ⟨rfl, rfl⟩ := Prod.mk.inj h
        exact g_zreturn hX (gb_some e_b20).1 (Nat.le_refl _) (Nat.le_refl _) dX0_come_95
      replace h := hpj15
      clear hpj15
      refine g_icmp_ge hX (pc := 67) dX0_come_67 (tgt := 90) (by decide) (fun c14 => ?_) (fun c14 => ?_)
      · replace h := ifP c14 h
        refine g_aload_n hX (pc := 70) (i := 0) dX0_come_70 rfl 0 rfl ?_
        refine gf0_6 hX (pc := 71) ho0 fl_X0_30 dX0_come_71 ?_
        refine g_aload_n hX (pc := 74) (i := 0) dX0_come_74 rfl 0 rfl ?_
        refine gf0_7 hX (pc := 75) ho0 fl_X0_33 dX0_come_75 ?_
        refine g_iload_n hX (pc := 78) (i := 3) dX0_come_78 rfl 3 rfl ?_
        obtain ⟨I16, e_I16, h⟩ := bnd h
        refine g_iastoreE hX (pc := 79) (s0_6 ho0).1 (s0_6 ho0).2.1 (s0_6 ho0).2.2.1 e_I16 dX0_come_79 ?_
        refine g_aload_n hX (pc := 80) (i := 0) dX0_come_80 rfl 0 rfl ?_
        refine g_dup hX (pc := 81) dX0_come_81 rfl ?_
        refine gf0_7 hX (pc := 82) ho0 fl_X0_33 dX0_come_82 ?_
        refine g_iconst hX (pc := 85) (v := 1) dX0_come_85 (by decide) ?_
        refine g_iadd hX (pc := 86) dX0_come_86 ?_
        obtain ⟨I17, e_I17, h⟩ := bnd h
        refine pf0_7 hX (pc := 87) ho0 fl_X0_33 dX0_come_87 e_I17 ?_
        exact Kj15 I17 (Option.some.inj h)
      · replace h := ifN c14 h
        exact Kj15 I13 (Option.some.inj h)
  replace h := hpj4
  clear hpj4
  refine g_icmp_ne hX (pc := 12) dX0_come_12 (tgt := 25) (by decide) (fun c3 => ?_) (fun c3 => ?_)
  · replace h := ifP c3 h
    refine g_aload_n hX (pc := 15) (i := 0) dX0_come_15 rfl 0 rfl ?_
    refine g_iload_n hX (pc := 16) (i := 3) dX0_come_16 rfl 3 rfl ?_
    refine g_aload_n hX (pc := 17) (i := 0) dX0_come_17 rfl 0 rfl ?_
    refine g_aload_n hX (pc := 18) (i := 1) dX0_come_18 rfl 1 rfl ?_
    obtain ⟨r5, e_r5, h⟩ := bnd h
    refine g_callVi hX (pc := 19) (d := d + 1) hr0 [.ref o1] (c := 0) (ct_X0_firstFreeHole (d := d + 1) ho0 ho1 e_r5) ho0.1.1 ho0.1.2 (by decide) rfl co_X0_firstFreeHole ml_X0_146 im_X0_firstFreeHole sl_X0_firstFreeHole ini_X0 nm_X0_firstFreeHole (by decide) ⟨Nat.le_refl _, Nat.le_refl _⟩ (Nat.le_refl _) (Nat.le_of_ble_eq_true rfl) rfl dX0_come_19 ?_
    obtain ⟨r6, e_r6, h⟩ := bnd h
    refine g_callVv hX (pc := 22) (d := d + 1) hr0 [.int r1, .int r5] (c := 0) (ct_X0_takeHole (d := d + 1) ho0 e_r6) ho0.1.1 ho0.1.2 (by decide) rfl co_X0_takeHole ml_X0_150 im_X0_takeHole sl_X0_takeHole ini_X0 nm_X0_takeHole (by decide) ⟨Nat.le_refl _, Nat.le_refl _⟩ (Nat.le_refl _) (Nat.le_of_ble_eq_true rfl) rfl dX0_come_22 ?_
    exact Kj4 r6 (Option.some.inj h)
  · replace h := ifN c3 h
    exact Kj4 I (Option.some.inj h)
noncomputable def b_X0_goThroughAside_13 (o0 : Nat) (o1 : Nat) (I : MI) (s : Int32 × Int32 × Int32 × MI) : Option ((Int32 × Int32 × Int32 × MI) ⊕ (Int32 × Int32 × Int32 × MI)) :=
  if s.2.2.1 < (I o0 12) then
    (rd 864 (s.2.2.2 (o0 + 9)) s.2.2.1).bind fun v7 =>
    (if s.2.1 = 0 then
      (f_X4_orderOfUnit v7).bind fun r10 =>
      (f_X0_canCome o0 o1 r10 s.2.2.2).bind fun r11 =>
      if r11 = 0 then
        (wr 864 s.2.2.2 (o0 + 9) s.1 v7).bind fun I13 =>
        some ((s.1 + 1, s.2.1, I13))
      else
        (f_X0_come o0 o1 v7 s.2.2.2).bind fun r14 =>
        some ((s.1, r14.1, r14.2))
    else
      (wr 864 s.2.2.2 (o0 + 9) s.1 v7).bind fun I15 =>
      some ((s.1 + 1, s.2.1, I15))).bind fun (p16 : Int32 × Int32 × MI) =>
    some (.inl ((p16.1, p16.2.1, s.2.2.1 + 1, p16.2.2)))
  else
    some (.inr ((s.1, s.2.1, s.2.2.1, s.2.2.2)))
noncomputable def f_X0_goThroughAside (o0 : Nat) (o1 : Nat) (I : MI) : Option (Int32 × MI) :=
  (lp (b_X0_goThroughAside_13 o0 o1 I) ((0, 0, 0, I))).bind fun p17 =>
  (wf p17.2.2.2 o0 12 p17.1).bind fun I18 =>
  (if p17.1 < (I o0 12) then
    some 1
  else
    some 0).bind fun (p21 : Int32) =>
  (gb p21).bind fun b22 =>
  some ((p21, I18))
theorem nm_X0_goThroughAside : yX0_goThroughAside.cls ≠ "java/lang/invoke/MethodHandle" ∧ yX0_goThroughAside.cls ≠ "java/lang/invoke/VarHandle" ∧ (parseMethodDescriptor yX0_goThroughAside.desc).map (fun d => d.parameters.length) = some 1 := by decide +kernel
set_option maxRecDepth 100000 in
set_option maxHeartbeats 4000000 in
theorem ct_X0_goThroughAside {E : Ev} {d : Nat} {z : Sh} {J : MJ} {I : MI} {o0 : Nat} {o1 : Nat} {rr : Int32} {Iz : MI} (ho0 : oX0 z o0) (ho1 : oX3 z o1) (h : f_X0_goThroughAside o0 o1 I = some ((rr, Iz))) : Ct E (d + 3) yX0_goThroughAside cX0_goThroughAside 7 (some .boolean) 0 0 [.ref o0, .ref o1] z J I (some (.int rr)) z J Iz := by
  unfold f_X0_goThroughAside at h
  refine Ct.of (own := RX0) (ls := [(0, .ref o0), (1, .ref o1)]) (by decide) rfl (Nat.le_of_ble_eq_true rfl) rfl ?_
  intro X hr0 hnm hX
  refine g_aload_n hX (pc := 0) (i := 0) dX0_goThroughAside_0 rfl 0 rfl ?_
  refine gf0_12 hX (pc := 1) ho0 fl_X0_49 dX0_goThroughAside_1 ?_
  refine g_istore_n hX (pc := 4) (i := 2) (ls' := [(0, .ref o0), (1, .ref o1), (2, .int (I o0 12))]) [1, 2, 0] dX0_goThroughAside_4 rfl (by decide) rfl ?_
  refine g_iconst hX (pc := 5) (v := 0) dX0_goThroughAside_5 (by decide) ?_
  refine g_istore_n hX (pc := 6) (i := 3) (ls' := [(0, .ref o0), (1, .ref o1), (2, .int (I o0 12)), (3, .int 0)]) [1, 2, 3, 0] dX0_goThroughAside_6 rfl (by decide) rfl ?_
  refine g_iconst hX (pc := 7) (v := 0) dX0_goThroughAside_7 (by decide) ?_
  refine g_istore hX (pc := 8) (ls' := [(0, .ref o0), (1, .ref o1), (2, .int (I o0 12)), (3, .int 0), (4, .int 0)]) [1, 2, 3, 4, 0] dX0_goThroughAside_8 (by decide) rfl ?_
  refine g_iconst hX (pc := 10) (v := 0) dX0_goThroughAside_10 (by decide) ?_
  refine g_istore hX (pc := 11) (ls' := [(0, .ref o0), (1, .ref o1), (2, .int (I o0 12)), (3, .int 0), (4, .int 0), (5, .int 0)]) [1, 2, 3, 4, 5, 0] dX0_goThroughAside_11 (by decide) rfl ?_
  obtain ⟨p17, hpl5, h⟩ := bnd h
  have Kl5 : ∀ ql5 : Int32 × Int32 × Int32 × MI, ql5 = p17 → GW E X (QX E X 0 0 (some (.int rr)) z J Iz) 7 75 [(0, .ref o0), (1, .ref o1), (2, .int (I o0 12)), (3, .int ql5.1), (4, .int ql5.2.1), (5, .int ql5.2.2.1)] [] z J ql5.2.2.2 0 0 := by
    intro ql5 hql5
    subst hql5
    refine g_aload_n hX (pc := 75) (i := 0) dX0_goThroughAside_75 rfl 0 rfl ?_
    refine g_iload_n hX (pc := 76) (i := 3) dX0_goThroughAside_76 rfl 3 rfl ?_
    obtain ⟨I18, e_I18, h⟩ := bnd h
    refine pf0_12 hX (pc := 77) ho0 fl_X0_49 dX0_goThroughAside_77 e_I18 ?_
    refine g_iload_n hX (pc := 80) (i := 3) dX0_goThroughAside_80 rfl 3 rfl ?_
    refine g_iload_n hX (pc := 81) (i := 2) dX0_goThroughAside_81 rfl 2 rfl ?_
    obtain ⟨p21, hpj20, h⟩ := bnd h
    have Kj20 : ∀ qj20 : Int32, qj20 = p21 → GW E X (QX E X 0 0 (some (.int rr)) z J Iz) 7 90 [(0, .ref o0), (1, .ref o1), (2, .int (I o0 12)), (3, .int ql5.1), (4, .int ql5.2.1), (5, .int ql5.2.2.1)] [.int qj20] z J I18 0 0 := by
      intro qj20 hqj20
      subst hqj20
      obtain ⟨b22, e_b22, h⟩ := bnd h
      replace h := Option.some.inj h
      obtain ⟨rfl, rfl⟩ := Prod.mk.inj h
      exact g_zreturn hX (gb_some e_b22).1 (Nat.le_refl _) (Nat.le_refl _) dX0_goThroughAside_90
    replace h := hpj20
    clear hpj20
    refine g_icmp_ge hX (pc := 82) dX0_goThroughAside_82 (tgt := 89) (by decide) (fun c19 => ?_) (fun c19 => ?_)
    · replace h := ifP c19 h
      refine g_iconst hX (pc := 85) (v := 1) dX0_goThroughAside_85 (by decide) ?_
      refine g_goto hX (pc := 86) (tgt := 90) dX0_goThroughAside_86 (by decide) ?_
      exact Kj20 1 (Option.some.inj h)
    · replace h := ifN c19 h
      refine g_iconst hX (pc := 89) (v := 0) dX0_goThroughAside_89 (by decide) ?_
      exact Kj20 0 (Option.some.inj h)
  obtain ⟨kl5, hkl5⟩ := lp_ex hpl5
  clear hpl5 h
  have Ll5 : ∀ k : Nat, ∀ (s1 : Int32) (s2 : Int32) (s3 : Int32) (I4 : MI), lpN k (b_X0_goThroughAside_13 o0 o1 I) ((s1, s2, s3, I4)) = some p17 → GW E X (QX E X 0 0 (some (.int rr)) z J Iz) 7 13 [(0, .ref o0), (1, .ref o1), (2, .int (I o0 12)), (3, .int s1), (4, .int s2), (5, .int s3)] [] z J I4 0 0 := by
    intro k
    induction k with
    | zero => intro s1 s2 s3 I4 h; cases h
    | succ k ihl5 =>
      intro s1 s2 s3 I4 h
      obtain ⟨wl5, h, hwl5⟩ := lpN_s h
      unfold b_X0_goThroughAside_13 at h
      try dsimp only at h
      refine g_iload hX (pc := 13) dX0_goThroughAside_13 5 rfl ?_
      refine g_iload_n hX (pc := 15) (i := 2) dX0_goThroughAside_15 rfl 2 rfl ?_
      refine g_icmp_ge hX (pc := 16) dX0_goThroughAside_16 (tgt := 75) (by decide) (fun c6 => ?_) (fun c6 => ?_)
      · replace h := ifP c6 h
        refine g_aload_n hX (pc := 19) (i := 0) dX0_goThroughAside_19 rfl 0 rfl ?_
        refine gf0_11 hX (pc := 20) ho0 fl_X0_46 dX0_goThroughAside_20 ?_
        refine g_iload hX (pc := 23) dX0_goThroughAside_23 5 rfl ?_
        obtain ⟨v7, e_v7, h⟩ := bnd h
        refine g_ialoadE hX (pc := 25) (s0_11 ho0).1 (s0_11 ho0).2.1 (s0_11 ho0).2.2.1 e_v7 dX0_goThroughAside_25 ?_
        refine g_istore hX (pc := 26) (ls' := [(0, .ref o0), (1, .ref o1), (2, .int (I o0 12)), (3, .int s1), (4, .int s2), (5, .int s3), (6, .int v7)]) [1, 2, 3, 4, 5, 6, 0] dX0_goThroughAside_26 (by decide) rfl ?_
        refine g_iload hX (pc := 28) dX0_goThroughAside_28 4 rfl ?_
        obtain ⟨p16, hpj9, h⟩ := bnd h
        have Kj9 : ∀ qj9 : Int32 × Int32 × MI, qj9 = p16 → GW E X (QX E X 0 0 (some (.int rr)) z J Iz) 7 69 [(0, .ref o0), (1, .ref o1), (2, .int (I o0 12)), (3, .int qj9.1), (4, .int qj9.2.1), (5, .int s3), (6, .int v7)] [] z J qj9.2.2 0 0 := by
          intro qj9 hqj9
          subst hqj9
          refine g_iinc hX (pc := 69) (i := 5) (v := s3 + 1) (ls' := [(0, .ref o0), (1, .ref o1), (2, .int (I o0 12)), (3, .int qj9.1), (4, .int qj9.2.1), (5, .int (s3 + 1)), (6, .int v7)]) 5 [1, 2, 3, 4, 5, 0, 6] dX0_goThroughAside_69 rfl (by rfl) (by decide) rfl ?_
          refine g_goto hX (pc := 72) (tgt := 13) dX0_goThroughAside_72 (by decide) ?_
          refine g_sub (ls' := [(0, .ref o0), (1, .ref o1), (2, .int (I o0 12)), (3, .int qj9.1), (4, .int qj9.2.1), (5, .int (s3 + 1))]) [0, 1, 2, 3, 4, 5] rfl ?_
          obtain rfl := Option.some.inj h
          exact ihl5 qj9.1 qj9.2.1 (s3 + 1) qj9.2.2 hwl5
        replace h := hpj9
        clear hpj9
        refine g_if_ne hX (pc := 30) dX0_goThroughAside_30 (tgt := 58) (by decide) (fun c8 => ?_) (fun c8 => ?_)
        · replace h := ifP c8 h
          refine g_aload_n hX (pc := 33) (i := 0) dX0_goThroughAside_33 rfl 0 rfl ?_
          refine g_aload_n hX (pc := 34) (i := 1) dX0_goThroughAside_34 rfl 1 rfl ?_
          refine g_iload hX (pc := 35) dX0_goThroughAside_35 6 rfl ?_
          obtain ⟨r10, e_r10, h⟩ := bnd h
          refine g_callSNi hX (pc := 37) (d := d + 2) hr0 [.int v7] (host := RX4) (ct_X4_orderOfUnit (d := d + 2)  e_r10) co_X4_orderOfUnit (by decide) sta_X4_orderOfUnit ini_X4 nm_X4_orderOfUnit (by decide) ⟨Nat.le_refl _, Nat.le_refl _⟩ (Nat.le_refl _) (Nat.le_of_ble_eq_true rfl) rfl dX0_goThroughAside_37 ?_
          obtain ⟨r11, e_r11, h⟩ := bnd h
          refine g_callVi hX (pc := 40) (d := d + 2) hr0 [.ref o1, .int r10] (c := 0) (ct_X0_canCome (d := d + 1) ho0 ho1 e_r11) ho0.1.1 ho0.1.2 (by decide) rfl co_X0_canCome ml_X0_122 im_X0_canCome sl_X0_canCome ini_X0 nm_X0_canCome (by decide) ⟨Nat.le_refl _, Nat.le_refl _⟩ (Nat.le_refl _) (Nat.le_of_ble_eq_true rfl) rfl dX0_goThroughAside_40 ?_
          refine g_if_eq hX (pc := 43) dX0_goThroughAside_43 (tgt := 58) (by decide) (fun c12 => ?_) (fun c12 => ?_)
          · replace h := ifP c12 h
            refine g_aload_n hX (pc := 58) (i := 0) dX0_goThroughAside_58 rfl 0 rfl ?_
            refine gf0_11 hX (pc := 59) ho0 fl_X0_46 dX0_goThroughAside_59 ?_
            refine g_iload_n hX (pc := 62) (i := 3) dX0_goThroughAside_62 rfl 3 rfl ?_
            refine g_iload hX (pc := 63) dX0_goThroughAside_63 6 rfl ?_
            obtain ⟨I13, e_I13, h⟩ := bnd h
            refine g_iastoreE hX (pc := 65) (s0_11 ho0).1 (s0_11 ho0).2.1 (s0_11 ho0).2.2.1 e_I13 dX0_goThroughAside_65 ?_
            refine g_iinc hX (pc := 66) (i := 3) (v := s1 + 1) (ls' := [(0, .ref o0), (1, .ref o1), (2, .int (I o0 12)), (3, .int (s1 + 1)), (4, .int s2), (5, .int s3), (6, .int v7)]) 3 [1, 2, 3, 0, 4, 5, 6] dX0_goThroughAside_66 rfl (by rfl) (by decide) rfl ?_
            exact Kj9 ((s1 + 1, s2, I13)) (Option.some.inj h)
          · replace h := ifN c12 h
            refine g_aload_n hX (pc := 46) (i := 0) dX0_goThroughAside_46 rfl 0 rfl ?_
            refine g_aload_n hX (pc := 47) (i := 1) dX0_goThroughAside_47 rfl 1 rfl ?_
            refine g_iload hX (pc := 48) dX0_goThroughAside_48 6 rfl ?_
            obtain ⟨r14, e_r14, h⟩ := bnd h
            refine g_callVi hX (pc := 50) (d := d + 2) hr0 [.ref o1, .int v7] (c := 0) (ct_X0_come (d := d + 0) ho0 ho1 e_r14) ho0.1.1 ho0.1.2 (by decide) rfl co_X0_come ml_X0_130 im_X0_come sl_X0_come ini_X0 nm_X0_come (by decide) ⟨Nat.le_refl _, Nat.le_refl _⟩ (Nat.le_refl _) (Nat.le_of_ble_eq_true rfl) rfl dX0_goThroughAside_50 ?_
            refine g_istore hX (pc := 53) (ls' := [(0, .ref o0), (1, .ref o1), (2, .int (I o0 12)), (3, .int s1), (4, .int r14.1), (5, .int s3), (6, .int v7)]) [1, 2, 3, 4, 0, 5, 6] dX0_goThroughAside_53 (by decide) rfl ?_
            refine g_goto hX (pc := 55) (tgt := 69) dX0_goThroughAside_55 (by decide) ?_
            exact Kj9 ((s1, r14.1, r14.2)) (Option.some.inj h)
        · replace h := ifN c8 h
          refine g_aload_n hX (pc := 58) (i := 0) dX0_goThroughAside_58 rfl 0 rfl ?_
          refine gf0_11 hX (pc := 59) ho0 fl_X0_46 dX0_goThroughAside_59 ?_
          refine g_iload_n hX (pc := 62) (i := 3) dX0_goThroughAside_62 rfl 3 rfl ?_
          refine g_iload hX (pc := 63) dX0_goThroughAside_63 6 rfl ?_
          obtain ⟨I15, e_I15, h⟩ := bnd h
          refine g_iastoreE hX (pc := 65) (s0_11 ho0).1 (s0_11 ho0).2.1 (s0_11 ho0).2.2.1 e_I15 dX0_goThroughAside_65 ?_
          refine g_iinc hX (pc := 66) (i := 3) (v := s1 + 1) (ls' := [(0, .ref o0), (1, .ref o1), (2, .int (I o0 12)), (3, .int (s1 + 1)), (4, .int s2), (5, .int s3), (6, .int v7)]) 3 [1, 2, 3, 0, 4, 5, 6] dX0_goThroughAside_66 rfl (by rfl) (by decide) rfl ?_
          exact Kj9 ((s1 + 1, s2, I15)) (Option.some.inj h)
      · replace h := ifN c6 h
        obtain rfl := Option.some.inj h
        exact Kl5 ((s1, s2, s3, I4)) hwl5
  exact Ll5 kl5 0 0 0 I hkl5
