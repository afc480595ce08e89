noncomputable def f_X5_thrown (o0 : Nat) (J : MJ) (I : MI) : Option (Int32) :=
  some (I o0 0)
theorem nm_X5_thrown : yX5_thrown.cls ≠ "java/lang/invoke/MethodHandle" ∧ yX5_thrown.cls ≠ "java/lang/invoke/VarHandle" ∧ (parseMethodDescriptor yX5_thrown.desc).map (fun d => d.parameters.length) = some 0 := by decide +kernel
set_option maxRecDepth 100000 in
set_option maxHeartbeats 4000000 in
theorem ct_X5_thrown {E : Ev} {d : Nat} {z : Sh} {J : MJ} {I : MI} {o0 : Nat} {rr : Int32} (ho0 : oX5 z o0) (h : f_X5_thrown o0 J I = some rr) : Ct E (d + 0) yX5_thrown cX5_thrown 1 (some .int) 0 0 [.ref o0] z J I (some (.int rr)) z J I := by
  unfold f_X5_thrown at h
  refine Ct.of (own := RX5) (ls := [(0, .ref o0)]) (by decide) rfl (Nat.le_of_ble_eq_true rfl) rfl ?_
  intro X hr0 hnm hX
  refine g_aload_n hX (pc := 0) (i := 0) dX5_thrown_0 rfl 0 rfl ?_
  refine gf5_0 hX (pc := 1) ho0 fl_X5_86 dX5_thrown_1 ?_
  obtain rfl := Option.some.inj h
  exact g_ireturn hX (Nat.le_refl _) (Nat.le_refl _) dX5_thrown_4
noncomputable def f_X5_within (x0 : Int64) (x1 : Int64) (x2 : Int64)  : Option (Int32) :=
  (if x0 < x1 then
    some 0
  else
    if x2 < x0 then
      some 0
    else
      some 1).bind fun (p4 : Int32) =>
  (gb p4).bind fun b5 =>
  some p4
theorem nm_X5_within : yX5_within.cls ≠ "java/lang/invoke/MethodHandle" ∧ yX5_within.cls ≠ "java/lang/invoke/VarHandle" ∧ (parseMethodDescriptor yX5_within.desc).map (fun d => d.parameters.length) = some 3 := by decide +kernel
set_option maxRecDepth 100000 in
set_option maxHeartbeats 4000000 in
theorem ct_X5_within {E : Ev} {d : Nat} {z : Sh} {J : MJ} {I : MI} {x0 : Int64} {x1 : Int64} {x2 : Int64} {rr : Int32}  (h : f_X5_within x0 x1 x2 = some rr) : Ct E (d + 0) yX5_within cX5_within 6 (some .boolean) 0 0 [.long x0, .long x1, .long x2] z J I (some (.int rr)) z J I := by
  unfold f_X5_within at h
  refine Ct.of (own := RX5) (ls := [(0, .long x0), (2, .long x1), (4, .long x2)]) (by decide) rfl (Nat.le_of_ble_eq_true rfl) rfl ?_
  intro X hr0 hnm hX
  refine g_lload_n hX (pc := 0) (i := 0) dX5_within_0 rfl 0 rfl ?_
  refine g_lload_n hX (pc := 1) (i := 2) dX5_within_1 rfl 1 rfl ?_
  obtain ⟨p4, hpj2, h⟩ := bnd h
  have Kj2 : ∀ qj2 : Int32, qj2 = p4 → GW E X (QX E X 0 0 (some (.int rr)) z J I) 6 18 [(0, .long x0), (2, .long x1), (4, .long x2)] [.int qj2] z J I 0 0 := by
    intro qj2 hqj2
    subst hqj2
    obtain ⟨b5, e_b5, h⟩ := bnd h
    obtain rfl := Option.some.inj h
    exact g_zreturn hX (gb_some e_b5).1 (Nat.le_refl _) (Nat.le_refl _) dX5_within_18
  replace h := hpj2
  clear hpj2
  refine g_lcmp_lt hX (pc := 2) dX5_within_2 dX5_within_3 (tgt := 17) (by decide) (fun c1 => ?_) (fun c1 => ?_)
  · replace h := ifP c1 h
    refine g_iconst hX (pc := 17) (v := 0) dX5_within_17 (by decide) ?_
    exact Kj2 0 (Option.some.inj h)
  · replace h := ifN c1 h
    refine g_lload_n hX (pc := 6) (i := 0) dX5_within_6 rfl 0 rfl ?_
    refine g_lload hX (pc := 7) dX5_within_7 2 rfl ?_
    refine g_lcmp_gt hX (pc := 9) dX5_within_9 dX5_within_10 (tgt := 17) (by decide) (fun c3 => ?_) (fun c3 => ?_)
    · replace h := ifP c3 h
      refine g_iconst hX (pc := 17) (v := 0) dX5_within_17 (by decide) ?_
      exact Kj2 0 (Option.some.inj h)
    · replace h := ifN c3 h
      refine g_iconst hX (pc := 13) (v := 1) dX5_within_13 (by decide) ?_
      refine g_goto hX (pc := 14) (tgt := 18) dX5_within_14 (by decide) ?_
      exact Kj2 1 (Option.some.inj h)
noncomputable def b_X5_puts_3 (o0 : Nat) (x1 : Int32) (s : Int32 × MI) : Option ((Int32 × MI) ⊕ (Int32 × MI)) :=
  if s.1 < 0 then
    some (.inr ((s.1, s.2)))
  else
    (wr 600 s.2 (o0 + 1) (s.2 o0 2) (((x1 >>> (s.1 &&& 31)).toInt8.toInt32).toInt8.toInt32)).bind fun I5 =>
    (wf I5 o0 2 ((I5 o0 2) + 1)).bind fun I6 =>
    some (.inl ((s.1 + (-8), I6)))
noncomputable def f_X5_puts (o0 : Nat) (x1 : Int32) (J : MJ) (I : MI) : Option (MI) :=
  (lp (b_X5_puts_3 o0 x1) ((24, I))).bind fun p7 =>
  some p7.2
theorem nm_X5_puts : yX5_puts.cls ≠ "java/lang/invoke/MethodHandle" ∧ yX5_puts.cls ≠ "java/lang/invoke/VarHandle" ∧ (parseMethodDescriptor yX5_puts.desc).map (fun d => d.parameters.length) = some 1 := by decide +kernel
set_option maxRecDepth 100000 in
set_option maxHeartbeats 4000000 in
theorem ct_X5_puts {E : Ev} {d : Nat} {z : Sh} {J : MJ} {I : MI} {o0 : Nat} {x1 : Int32} {Iz : MI} (ho0 : oX5 z o0) (h : f_X5_puts o0 x1 J I = some Iz) : Ct E (d + 0) yX5_puts cX5_puts 3 none 0 0 [.ref o0, .int x1] z J I none z J Iz := by
  unfold f_X5_puts at h
  refine Ct.of (own := RX5) (ls := [(0, .ref o0), (1, .int x1)]) (by decide) rfl (Nat.le_of_ble_eq_true rfl) rfl ?_
  intro X hr0 hnm hX
  refine g_bipush hX (pc := 0) (v := 24) dX5_puts_0 (by decide) ?_
  refine g_istore_n hX (pc := 2) (i := 2) (ls' := [(0, .ref o0), (1, .int x1), (2, .int 24)]) [1, 2, 0] dX5_puts_2 rfl (by decide) rfl ?_
  obtain ⟨p7, hpl3, h⟩ := bnd h
  have Kl3 : ∀ ql3 : Int32 × MI, ql3 = p7 → GW E X (QX E X 0 0 none z J Iz) 3 36 [(0, .ref o0), (1, .int x1), (2, .int ql3.1)] [] z J ql3.2 0 0 := by
    intro ql3 hql3
    subst hql3
    obtain rfl := Option.some.inj h
    exact g_return hX (Nat.le_refl _) (Nat.le_refl _) dX5_puts_36
  obtain ⟨kl3, hkl3⟩ := lp_ex hpl3
  clear hpl3 h
  have Ll3 : ∀ k : Nat, ∀ (s1 : Int32) (I2 : MI), lpN k (b_X5_puts_3 o0 x1) ((s1, I2)) = some p7 → GW E X (QX E X 0 0 none z J Iz) 3 3 [(0, .ref o0), (1, .int x1), (2, .int s1)] [] z J I2 0 0 := by
    intro k
    induction k with
    | zero => intro s1 I2 h; cases h
    | succ k ihl3 =>
      intro s1 I2 h
      obtain ⟨wl3, h, hwl3⟩ := lpN_s h
      unfold b_X5_puts_3 at h
      try dsimp only at h
      refine g_iload_n hX (pc := 3) (i := 2) dX5_puts_3 rfl 2 rfl ?_
      refine g_if_lt hX (pc := 4) dX5_puts_4 (tgt := 36) (by decide) (fun c4 => ?_) (fun c4 => ?_)
      · replace h := ifP c4 h
        obtain rfl := Option.some.inj h
        exact Kl3 ((s1, I2)) hwl3
      · replace h := ifN c4 h
        refine g_aload_n hX (pc := 7) (i := 0) dX5_puts_7 rfl 0 rfl ?_
        refine gf5_1 hX (pc := 8) ho0 fl_X5_7 dX5_puts_8 ?_
        refine g_aload_n hX (pc := 11) (i := 0) dX5_puts_11 rfl 0 rfl ?_
        refine gf5_2 hX (pc := 12) ho0 fl_X5_90 dX5_puts_12 ?_
        refine g_iload_n hX (pc := 15) (i := 1) dX5_puts_15 rfl 1 rfl ?_
        refine g_iload_n hX (pc := 16) (i := 2) dX5_puts_16 rfl 2 rfl ?_
        refine g_ishr hX (pc := 17) dX5_puts_17 ?_
        refine g_i2b hX (pc := 18) dX5_puts_18 ?_
        obtain ⟨I5, e_I5, h⟩ := bnd h
        refine g_bastoreE hX (pc := 19) (s5_1 ho0).1 (s5_1 ho0).2.1 (s5_1 ho0).2.2.1 e_I5 dX5_puts_19 ?_
        refine g_aload_n hX (pc := 20) (i := 0) dX5_puts_20 rfl 0 rfl ?_
        refine g_dup hX (pc := 21) dX5_puts_21 rfl ?_
        refine gf5_2 hX (pc := 22) ho0 fl_X5_90 dX5_puts_22 ?_
        refine g_iconst hX (pc := 25) (v := 1) dX5_puts_25 (by decide) ?_
        refine g_iadd hX (pc := 26) dX5_puts_26 ?_
        obtain ⟨I6, e_I6, h⟩ := bnd h
        refine pf5_2 hX (pc := 27) ho0 fl_X5_90 dX5_puts_27 e_I6 ?_
        refine g_iinc hX (pc := 30) (i := 2) (v := s1 + (-8)) (ls' := [(0, .ref o0), (1, .int x1), (2, .int (s1 + (-8)))]) 2 [1, 2, 0] dX5_puts_30 rfl (by rfl) (by decide) rfl ?_
        refine g_goto hX (pc := 33) (tgt := 3) dX5_puts_33 (by decide) ?_
        obtain rfl := Option.some.inj h
        exact ihl3 (s1 + (-8)) I6 hwl3
  exact Ll3 kl3 24 I hkl3
noncomputable def f_X5_feed (o0 : Nat) (x1 : Int32) (x2 : Int32) (x3 : Int32) (x4 : Int32) (x5 : Int32) (J : MJ) (I : MI) : Option (Int32 × MI) :=
  (wf I o0 0 0).bind fun I1 =>
  if 600 < ((I1 o0 2) + 20) then
    some (((-1), I1))
  else
    (f_X5_puts o0 x1 J I1).bind fun r3 =>
    (f_X5_puts o0 x2 J r3).bind fun r4 =>
    (f_X5_puts o0 x3 J r4).bind fun r5 =>
    (f_X5_puts o0 x4 J r5).bind fun r6 =>
    (f_X5_puts o0 x5 J r6).bind fun r7 =>
    some ((r7 o0 2, r7))
theorem nm_X5_feed : yX5_feed.cls ≠ "java/lang/invoke/MethodHandle" ∧ yX5_feed.cls ≠ "java/lang/invoke/VarHandle" ∧ (parseMethodDescriptor yX5_feed.desc).map (fun d => d.parameters.length) = some 5 := by decide +kernel
set_option maxRecDepth 100000 in
set_option maxHeartbeats 4000000 in
theorem ct_X5_feed {E : Ev} {d : Nat} {z : Sh} {J : MJ} {I : MI} {o0 : Nat} {x1 : Int32} {x2 : Int32} {x3 : Int32} {x4 : Int32} {x5 : Int32} {rr : Int32} {Iz : MI} (ho0 : oX5 z o0) (h : f_X5_feed o0 x1 x2 x3 x4 x5 J I = some ((rr, Iz))) : Ct E (d + 1) yX5_feed cX5_feed 6 (some .int) 0 0 [.ref o0, .int x1, .int x2, .int x3, .int x4, .int x5] z J I (some (.int rr)) z J Iz := by
  unfold f_X5_feed at h
  refine Ct.of (own := RX5) (ls := [(0, .ref o0), (1, .int x1), (2, .int x2), (3, .int x3), (4, .int x4), (5, .int x5)]) (by decide) rfl (Nat.le_of_ble_eq_true rfl) rfl ?_
  intro X hr0 hnm hX
  refine g_aload_n hX (pc := 0) (i := 0) dX5_feed_0 rfl 0 rfl ?_
  refine g_iconst hX (pc := 1) (v := 0) dX5_feed_1 (by decide) ?_
  obtain ⟨I1, e_I1, h⟩ := bnd h
  refine pf5_0 hX (pc := 2) ho0 fl_X5_86 dX5_feed_2 e_I1 ?_
  refine g_aload_n hX (pc := 5) (i := 0) dX5_feed_5 rfl 0 rfl ?_
  refine gf5_2 hX (pc := 6) ho0 fl_X5_90 dX5_feed_6 ?_
  refine g_bipush hX (pc := 9) (v := 20) dX5_feed_9 (by decide) ?_
  refine g_iadd hX (pc := 11) dX5_feed_11 ?_
  refine g_sipush hX (pc := 12) (v := 600) dX5_feed_12 (by decide) ?_
  refine g_icmp_le hX (pc := 15) dX5_feed_15 (tgt := 20) (by decide) (fun c2 => ?_) (fun c2 => ?_)
  · replace h := ifP c2 h
    refine g_iconst hX (pc := 18) (v := (-1)) dX5_feed_18 (by decide) ?_
    replace h := Option.some.inj h
    obtain ⟨rfl, rfl⟩ := Prod.mk.inj h
    exact g_ireturn hX (Nat.le_refl _) (Nat.le_refl _) dX5_feed_19
  · replace h := ifN c2 h
    refine g_aload_n hX (pc := 20) (i := 0) dX5_feed_20 rfl 0 rfl ?_
    refine g_iload_n hX (pc := 21) (i := 1) dX5_feed_21 rfl 1 rfl ?_
    obtain ⟨r3, e_r3, h⟩ := bnd h
    refine g_callVv hX (pc := 22) (d := d + 0) hr0 [.int x1] (c := 5) (ct_X5_puts (d := d + 0) ho0 e_r3) ho0.1.1 ho0.1.2 (by decide) rfl co_X5_puts ml_X5_93 im_X5_puts sl_X5_puts ini_X5 nm_X5_puts (by decide) ⟨Nat.le_refl _, Nat.le_refl _⟩ (Nat.le_refl _) (Nat.le_of_ble_eq_true rfl) rfl dX5_feed_22 ?_
    refine g_aload_n hX (pc := 25) (i := 0) dX5_feed_25 rfl 0 rfl ?_
    refine g_iload_n hX (pc := 26) (i := 2) dX5_feed_26 rfl 2 rfl ?_
    obtain ⟨r4, e_r4, h⟩ := bnd h
    refine g_callVv hX (pc := 27) (d := d + 0) hr0 [.int x2] (c := 5) (ct_X5_puts (d := d + 0) ho0 e_r4) ho0.1.1 ho0.1.2 (by decide) rfl co_X5_puts ml_X5_93 im_X5_puts sl_X5_puts ini_X5 nm_X5_puts (by decide) ⟨Nat.le_refl _, Nat.le_refl _⟩ (Nat.le_refl _) (Nat.le_of_ble_eq_true rfl) rfl dX5_feed_27 ?_
    refine g_aload_n hX (pc := 30) (i := 0) dX5_feed_30 rfl 0 rfl ?_
    refine g_iload_n hX (pc := 31) (i := 3) dX5_feed_31 rfl 3 rfl ?_
    obtain ⟨r5, e_r5, h⟩ := bnd h
    refine g_callVv hX (pc := 32) (d := d + 0) hr0 [.int x3] (c := 5) (ct_X5_puts (d := d + 0) ho0 e_r5) ho0.1.1 ho0.1.2 (by decide) rfl co_X5_puts ml_X5_93 im_X5_puts sl_X5_puts ini_X5 nm_X5_puts (by decide) ⟨Nat.le_refl _, Nat.le_refl _⟩ (Nat.le_refl _) (Nat.le_of_ble_eq_true rfl) rfl dX5_feed_32 ?_
    refine g_aload_n hX (pc := 35) (i := 0) dX5_feed_35 rfl 0 rfl ?_
    refine g_iload hX (pc := 36) dX5_feed_36 4 rfl ?_
    obtain ⟨r6, e_r6, h⟩ := bnd h
    refine g_callVv hX (pc := 38) (d := d + 0) hr0 [.int x4] (c := 5) (ct_X5_puts (d := d + 0) ho0 e_r6) ho0.1.1 ho0.1.2 (by decide) rfl co_X5_puts ml_X5_93 im_X5_puts sl_X5_puts ini_X5 nm_X5_puts (by decide) ⟨Nat.le_refl _, Nat.le_refl _⟩ (Nat.le_refl _) (Nat.le_of_ble_eq_true rfl) rfl dX5_feed_38 ?_
    refine g_aload_n hX (pc := 41) (i := 0) dX5_feed_41 rfl 0 rfl ?_
    refine g_iload hX (pc := 42) dX5_feed_42 5 rfl ?_
    obtain ⟨r7, e_r7, h⟩ := bnd h
    refine g_callVv hX (pc := 44) (d := d + 0) hr0 [.int x5] (c := 5) (ct_X5_puts (d := d + 0) ho0 e_r7) ho0.1.1 ho0.1.2 (by decide) rfl co_X5_puts ml_X5_93 im_X5_puts sl_X5_puts ini_X5 nm_X5_puts (by decide) ⟨Nat.le_refl _, Nat.le_refl _⟩ (Nat.le_refl _) (Nat.le_of_ble_eq_true rfl) rfl dX5_feed_44 ?_
    refine g_aload_n hX (pc := 47) (i := 0) dX5_feed_47 rfl 0 rfl ?_
    refine gf5_2 hX (pc := 48) ho0 fl_X5_90 dX5_feed_48 ?_
    replace h := Option.some.inj h
    obtain ⟨rfl, rfl⟩ := Prod.mk.inj h
    exact g_ireturn hX (Nat.le_refl _) (Nat.le_refl _) dX5_feed_51
noncomputable def f_X5_see (o0 : Nat) (x1 : Int32) (J : MJ) (I : MI) : Option (Int32) :=
  (if x1 < (I o0 3) then
    (rd 600 (I (o0 + 1)) x1).bind fun v3 =>
    some (v3 &&& 255)
  else
    some ((-1))).bind fun (p4 : Int32) =>
  some p4
theorem nm_X5_see : yX5_see.cls ≠ "java/lang/invoke/MethodHandle" ∧ yX5_see.cls ≠ "java/lang/invoke/VarHandle" ∧ (parseMethodDescriptor yX5_see.desc).map (fun d => d.parameters.length) = some 1 := by decide +kernel
set_option maxRecDepth 100000 in
set_option maxHeartbeats 4000000 in
theorem ct_X5_see {E : Ev} {d : Nat} {z : Sh} {J : MJ} {I : MI} {o0 : Nat} {x1 : Int32} {rr : Int32} (ho0 : oX5 z o0) (h : f_X5_see o0 x1 J I = some rr) : Ct E (d + 0) yX5_see cX5_see 2 (some .int) 0 0 [.ref o0, .int x1] z J I (some (.int rr)) z J I := by
  unfold f_X5_see at h
  refine Ct.of (own := RX5) (ls := [(0, .ref o0), (1, .int x1)]) (by decide) rfl (Nat.le_of_ble_eq_true rfl) rfl ?_
  intro X hr0 hnm hX
  refine g_iload_n hX (pc := 0) (i := 1) dX5_see_0 rfl 1 rfl ?_
  refine g_aload_n hX (pc := 1) (i := 0) dX5_see_1 rfl 0 rfl ?_
  refine gf5_3 hX (pc := 2) ho0 fl_X5_96 dX5_see_2 ?_
  obtain ⟨p4, hpj2, h⟩ := bnd h
  have Kj2 : ∀ qj2 : Int32, qj2 = p4 → GW E X (QX E X 0 0 (some (.int rr)) z J I) 2 22 [(0, .ref o0), (1, .int x1)] [.int qj2] z J I 0 0 := by
    intro qj2 hqj2
    subst hqj2
    obtain rfl := Option.some.inj h
    exact g_ireturn hX (Nat.le_refl _) (Nat.le_refl _) dX5_see_22
  replace h := hpj2
  clear hpj2
  refine g_icmp_ge hX (pc := 5) dX5_see_5 (tgt := 21) (by decide) (fun c1 => ?_) (fun c1 => ?_)
  · replace h := ifP c1 h
    refine g_aload_n hX (pc := 8) (i := 0) dX5_see_8 rfl 0 rfl ?_
    refine gf5_1 hX (pc := 9) ho0 fl_X5_7 dX5_see_9 ?_
    refine g_iload_n hX (pc := 12) (i := 1) dX5_see_12 rfl 1 rfl ?_
    obtain ⟨v3, e_v3, h⟩ := bnd h
    refine g_baloadE hX (pc := 13) (s5_1 ho0).1 (s5_1 ho0).2.1 (s5_1 ho0).2.2.1 e_v3 dX5_see_13 ?_
    refine g_sipush hX (pc := 14) (v := 255) dX5_see_14 (by decide) ?_
    refine g_iand hX (pc := 17) dX5_see_17 ?_
    refine g_goto hX (pc := 18) (tgt := 22) dX5_see_18 (by decide) ?_
    exact Kj2 (v3 &&& 255) (Option.some.inj h)
  · replace h := ifN c1 h
    refine g_iconst hX (pc := 21) (v := (-1)) dX5_see_21 (by decide) ?_
    exact Kj2 ((-1)) (Option.some.inj h)
noncomputable def b_X5_steps_8 (o0 : Nat) (J : MJ) (s : MI) : Option ((MI) ⊕ (MI)) :=
  (f_X5_see o0 (s o0 4) J s).bind fun r4 =>
  if r4 = 32 then
    (wf s o0 4 ((s o0 4) + 1)).bind fun I6 =>
    some (.inl I6)
  else
    (f_X5_see o0 (s o0 4) J s).bind fun r7 =>
    if r7 = 10 then
      (wf s o0 4 ((s o0 4) + 1)).bind fun I9 =>
      some (.inl I9)
    else
      some (.inr s)
noncomputable def b_X5_steps_265 (o0 : Nat) (J15 : MJ) (s : MI) : Option ((MI) ⊕ (MI)) :=
  (f_X5_see o0 (s o0 5) J15 s).bind fun r29 =>
  (f_X5_within r29.toInt64 48 57).bind fun r30 =>
  if r30 = 0 then
    some (.inr s)
  else
    (if ((s o0 5) - (s o0 4)) < 2 then
      (f_X5_see o0 (s o0 5) J15 s).bind fun r34 =>
      some (((10 * (s o0 7)) + r34) - 48)
    else
      some (s o0 7)).bind fun (p35 : Int32) =>
    (wf s o0 7 p35).bind fun I36 =>
    (wf I36 o0 5 ((I36 o0 5) + 1)).bind fun I37 =>
    some (.inl I37)
noncomputable def b_X5_steps_138 (o0 : Nat) (s : MJ × MI) : Option ((MJ × MI) ⊕ (MJ × MI)) :=
  (f_X5_see o0 (s.2 o0 5) s.1 s.2).bind fun r47 =>
  (f_X5_within r47.toInt64 97 122).bind fun r48 =>
  if r48 = 0 then
    some (.inr ((s.1, s.2)))
  else
    (if ((s.2 o0 5) - (s.2 o0 4)) < 6 then
      (f_X5_see o0 (s.2 o0 5) s.1 s.2).bind fun r52 =>
      some (((s.1 o0 8) <<< ((5 : Int32).toInt64 &&& 63)) ||| (r52.toInt64 - 96))
    else
      some (s.1 o0 8)).bind fun (p53 : Int64) =>
    (wf s.1 o0 8 p53).bind fun J54 =>
    (wf s.2 o0 5 ((s.2 o0 5) + 1)).bind fun I55 =>
    some (.inl ((J54, I55)))
noncomputable def f_X5_steps (o0 : Nat) (J : MJ) (I : MI) : Option (MJ × MI) :=
  (wf I o0 4 (I o0 5)).bind fun I1 =>
  (lp (b_X5_steps_8 o0 J) I1).bind fun p10 =>
  (f_X5_see o0 (p10 o0 4) J p10).bind fun r11 =>
  (wf p10 o0 5 ((p10 o0 4) + 1)).bind fun I12 =>
  (wf I12 o0 6 4).bind fun I13 =>
  (wf I13 o0 7 0).bind fun I14 =>
  (wf J o0 8 0).bind fun J15 =>
  (if r11 = ((-1)) then
    (wf I14 o0 5 (I14 o0 4)).bind fun I18 =>
    (wf I18 o0 6 0).bind fun I19 =>
    some ((J15, I19))
  else
    if r11 = 59 then
      (wf I14 o0 6 3).bind fun I21 =>
      some ((J15, I21))
    else
      (f_X5_within r11.toInt64 97 122).bind fun r22 =>
      if r22 = 0 then
        (f_X5_within r11.toInt64 48 57).bind fun r24 =>
        if r24 = 0 then
          some ((J15, I14))
        else
          (wf I14 o0 5 (I14 o0 4)).bind fun I26 =>
          (lp (b_X5_steps_265 o0 J15) I26).bind fun p38 =>
          (if ((p38 o0 5) - (p38 o0 4)) < 3 then
            some 2
          else
            some 4).bind fun (p41 : Int32) =>
          (wf p38 o0 6 p41).bind fun I42 =>
          some ((J15, I42))
      else
        (wf I14 o0 5 (I14 o0 4)).bind fun I43 =>
        (lp (b_X5_steps_138 o0) ((J15, I43))).bind fun p56 =>
        (if ((p56.2 o0 5) - (p56.2 o0 4)) < 7 then
          some 1
        else
          some 4).bind fun (p59 : Int32) =>
        (wf p56.2 o0 6 p59).bind fun I60 =>
        some ((p56.1, I60))).bind fun (p61 : MJ × MI) =>
  some ((p61.1, p61.2))
theorem nm_X5_steps : yX5_steps.cls ≠ "java/lang/invoke/MethodHandle" ∧ yX5_steps.cls ≠ "java/lang/invoke/VarHandle" ∧ (parseMethodDescriptor yX5_steps.desc).map (fun d => d.parameters.length) = some 0 := by decide +kernel
set_option maxRecDepth 100000 in
set_option maxHeartbeats 4000000 in
theorem ct_X5_steps {E : Ev} {d : Nat} {z : Sh} {J : MJ} {I : MI} {o0 : Nat} {Jz : MJ} {Iz : MI} (ho0 : oX5 z o0) (h : f_X5_steps o0 J I = some ((Jz, Iz))) : Ct E (d + 1) yX5_steps cX5_steps 2 none 0 0 [.ref o0] z J I none z Jz Iz := by
  unfold f_X5_steps at h
  refine Ct.of (own := RX5) (ls := [(0, .ref o0)]) (by decide) rfl (Nat.le_of_ble_eq_true rfl) rfl ?_
  intro X hr0 hnm hX
  refine g_aload_n hX (pc := 0) (i := 0) dX5_steps_0 rfl 0 rfl ?_
  refine g_aload_n hX (pc := 1) (i := 0) dX5_steps_1 rfl 0 rfl ?_
  refine gf5_5 hX (pc := 2) ho0 fl_X5_99 dX5_steps_2 ?_
  obtain ⟨I1, e_I1, h⟩ := bnd h
  refine pf5_4 hX (pc := 5) ho0 fl_X5_102 dX5_steps_5 e_I1 ?_
  obtain ⟨p10, hpl3, h⟩ := bnd h
  have Kl3 : ∀ ql3 : MI, ql3 = p10 → GW E X (QX E X 0 0 none z Jz Iz) 2 47 [(0, .ref o0)] [] z J ql3 0 0 := by
    intro ql3 hql3
    subst hql3
    refine g_aload_n hX (pc := 47) (i := 0) dX5_steps_47 rfl 0 rfl ?_
    refine g_aload_n hX (pc := 48) (i := 0) dX5_steps_48 rfl 0 rfl ?_
    refine gf5_4 hX (pc := 49) ho0 fl_X5_102 dX5_steps_49 ?_
    obtain ⟨r11, e_r11, h⟩ := bnd h
    refine g_callVi hX (pc := 52) (d := d + 0) hr0 [.int (ql3 o0 4)] (c := 5) (ct_X5_see (d := d + 0) ho0 e_r11) ho0.1.1 ho0.1.2 (by decide) rfl co_X5_see ml_X5_105 im_X5_see sl_X5_see ini_X5 nm_X5_see (by decide) ⟨Nat.le_refl _, Nat.le_refl _⟩ (Nat.le_refl _) (Nat.le_of_ble_eq_true rfl) rfl dX5_steps_52 ?_
    refine g_istore_n hX (pc := 55) (i := 1) (ls' := [(0, .ref o0), (1, .int r11)]) [1, 0] dX5_steps_55 rfl (by decide) rfl ?_
    refine g_aload_n hX (pc := 56) (i := 0) dX5_steps_56 rfl 0 rfl ?_
    refine g_aload_n hX (pc := 57) (i := 0) dX5_steps_57 rfl 0 rfl ?_
    refine gf5_4 hX (pc := 58) ho0 fl_X5_102 dX5_steps_58 ?_
    refine g_iconst hX (pc := 61) (v := 1) dX5_steps_61 (by decide) ?_
    refine g_iadd hX (pc := 62) dX5_steps_62 ?_
    obtain ⟨I12, e_I12, h⟩ := bnd h
    refine pf5_5 hX (pc := 63) ho0 fl_X5_99 dX5_steps_63 e_I12 ?_
    refine g_aload_n hX (pc := 66) (i := 0) dX5_steps_66 rfl 0 rfl ?_
    refine g_iconst hX (pc := 67) (v := 4) dX5_steps_67 (by decide) ?_
    obtain ⟨I13, e_I13, h⟩ := bnd h
    refine pf5_6 hX (pc := 68) ho0 fl_X5_109 dX5_steps_68 e_I13 ?_
    refine g_aload_n hX (pc := 71) (i := 0) dX5_steps_71 rfl 0 rfl ?_
    refine g_iconst hX (pc := 72) (v := 0) dX5_steps_72 (by decide) ?_
    obtain ⟨I14, e_I14, h⟩ := bnd h
    refine pf5_7 hX (pc := 73) ho0 fl_X5_112 dX5_steps_73 e_I14 ?_
    refine g_aload_n hX (pc := 76) (i := 0) dX5_steps_76 rfl 0 rfl ?_
    refine g_lconst hX (pc := 77) (v := 0) dX5_steps_77 (by decide) ?_
    obtain ⟨J15, e_J15, h⟩ := bnd h
    refine pf5_8 hX (pc := 78) ho0 fl_X5_115 dX5_steps_78 e_J15 ?_
    refine g_iload_n hX (pc := 81) (i := 1) dX5_steps_81 rfl 1 rfl ?_
    refine g_iconst hX (pc := 82) (v := (-1)) dX5_steps_82 (by decide) ?_
    obtain ⟨p61, hpj17, h⟩ := bnd h
    have Kj17 : ∀ qj17 : MJ × MI, qj17 = p61 → GW E X (QX E X 0 0 none z Jz Iz) 2 364 [(0, .ref o0), (1, .int r11)] [] z qj17.1 qj17.2 0 0 := by
      intro qj17 hqj17
      subst hqj17
      replace h := Option.some.inj h
      obtain ⟨rfl, rfl⟩ := Prod.mk.inj h
      exact g_return hX (Nat.le_refl _) (Nat.le_refl _) dX5_steps_364
    replace h := hpj17
    clear hpj17
    refine g_icmp_ne hX (pc := 83) dX5_steps_83 (tgt := 102) (by decide) (fun c16 => ?_) (fun c16 => ?_)
    · replace h := ifP c16 h
      refine g_aload_n hX (pc := 86) (i := 0) dX5_steps_86 rfl 0 rfl ?_
      refine g_aload_n hX (pc := 87) (i := 0) dX5_steps_87 rfl 0 rfl ?_
      refine gf5_4 hX (pc := 88) ho0 fl_X5_102 dX5_steps_88 ?_
      obtain ⟨I18, e_I18, h⟩ := bnd h
      refine pf5_5 hX (pc := 91) ho0 fl_X5_99 dX5_steps_91 e_I18 ?_
      refine g_aload_n hX (pc := 94) (i := 0) dX5_steps_94 rfl 0 rfl ?_
      refine g_iconst hX (pc := 95) (v := 0) dX5_steps_95 (by decide) ?_
      obtain ⟨I19, e_I19, h⟩ := bnd h
      refine pf5_6 hX (pc := 96) ho0 fl_X5_109 dX5_steps_96 e_I19 ?_
      refine g_goto hX (pc := 99) (tgt := 364) dX5_steps_99 (by decide) ?_
      exact Kj17 ((J15, I19)) (Option.some.inj h)
    · replace h := ifN c16 h
      refine g_iload_n hX (pc := 102) (i := 1) dX5_steps_102 rfl 1 rfl ?_
      refine g_bipush hX (pc := 103) (v := 59) dX5_steps_103 (by decide) ?_
      refine g_icmp_ne hX (pc := 105) dX5_steps_105 (tgt := 116) (by decide) (fun c20 => ?_) (fun c20 => ?_)
      · replace h := ifP c20 h
        refine g_aload_n hX (pc := 108) (i := 0) dX5_steps_108 rfl 0 rfl ?_
        refine g_iconst hX (pc := 109) (v := 3) dX5_steps_109 (by decide) ?_
        obtain ⟨I21, e_I21, h⟩ := bnd h
        refine pf5_6 hX (pc := 110) ho0 fl_X5_109 dX5_steps_110 e_I21 ?_
        refine g_goto hX (pc := 113) (tgt := 364) dX5_steps_113 (by decide) ?_
        exact Kj17 ((J15, I21)) (Option.some.inj h)
      · replace h := ifN c20 h
        refine g_iload_n hX (pc := 116) (i := 1) dX5_steps_116 rfl 1 rfl ?_
        refine g_i2l hX (pc := 117) dX5_steps_117 ?_
        refine g_ldc2 hX (pc := 118) cst_X5_119 dX5_steps_118 ?_
        refine g_ldc2 hX (pc := 121) cst_X5_121 dX5_steps_121 ?_
        obtain ⟨r22, e_r22, h⟩ := bnd h
        refine g_callSi hX (pc := 124) (d := d + 0) hr0 [.long r11.toInt64, .long 97, .long 122] (ct_X5_within (d := d + 0)  e_r22) co_X5_within ml_X5_123 sta_X5_within ini_X5 nm_X5_within (by decide) ⟨Nat.le_refl _, Nat.le_refl _⟩ (Nat.le_refl _) (Nat.le_of_ble_eq_true rfl) rfl dX5_steps_124 ?_
        refine g_if_eq hX (pc := 127) dX5_steps_127 (tgt := 243) (by decide) (fun c23 => ?_) (fun c23 => ?_)
        · replace h := ifP c23 h
          refine g_iload_n hX (pc := 243) (i := 1) dX5_steps_243 rfl 1 rfl ?_
          refine g_i2l hX (pc := 244) dX5_steps_244 ?_
          refine g_ldc2 hX (pc := 245) cst_X5_129 dX5_steps_245 ?_
          refine g_ldc2 hX (pc := 248) cst_X5_131 dX5_steps_248 ?_
          obtain ⟨r24, e_r24, h⟩ := bnd h
          refine g_callSi hX (pc := 251) (d := d + 0) hr0 [.long r11.toInt64, .long 48, .long 57] (ct_X5_within (d := d + 0)  e_r24) co_X5_within ml_X5_123 sta_X5_within ini_X5 nm_X5_within (by decide) ⟨Nat.le_refl _, Nat.le_refl _⟩ (Nat.le_refl _) (Nat.le_of_ble_eq_true rfl) rfl dX5_steps_251 ?_
          refine g_if_eq hX (pc := 254) dX5_steps_254 (tgt := 364) (by decide) (fun c25 => ?_) (fun c25 => ?_)
          · replace h := ifP c25 h
            exact Kj17 ((J15, I14)) (Option.some.inj h)
          · replace h := ifN c25 h
            refine g_aload_n hX (pc := 257) (i := 0) dX5_steps_257 rfl 0 rfl ?_
            refine g_aload_n hX (pc := 258) (i := 0) dX5_steps_258 rfl 0 rfl ?_
            refine gf5_4 hX (pc := 259) ho0 fl_X5_102 dX5_steps_259 ?_
            obtain ⟨I26, e_I26, h⟩ := bnd h
            refine pf5_5 hX (pc := 262) ho0 fl_X5_99 dX5_steps_262 e_I26 ?_
            obtain ⟨p38, hpl28, h⟩ := bnd h
            have Kl28 : ∀ ql28 : MI, ql28 = p38 → GW E X (QX E X 0 0 none z Jz Iz) 2 342 [(0, .ref o0), (1, .int r11)] [] z J15 ql28 0 0 := by
              intro ql28 hql28
              subst hql28
              refine g_aload_n hX (pc := 342) (i := 0) dX5_steps_342 rfl 0 rfl ?_
              refine g_aload_n hX (pc := 343) (i := 0) dX5_steps_343 rfl 0 rfl ?_
              refine gf5_5 hX (pc := 344) ho0 fl_X5_99 dX5_steps_344 ?_
              refine g_aload_n hX (pc := 347) (i := 0) dX5_steps_347 rfl 0 rfl ?_
              refine gf5_4 hX (pc := 348) ho0 fl_X5_102 dX5_steps_348 ?_
              refine g_isub hX (pc := 351) dX5_steps_351 ?_
              refine g_iconst hX (pc := 352) (v := 3) dX5_steps_352 (by decide) ?_
              obtain ⟨p41, hpj40, h⟩ := bnd h
              have Kj40 : ∀ qj40 : Int32, qj40 = p41 → GW E X (QX E X 0 0 none z Jz Iz) 2 361 [(0, .ref o0), (1, .int r11)] [.int qj40, .ref o0] z J15 ql28 0 0 := by
                intro qj40 hqj40
                subst hqj40
                obtain ⟨I42, e_I42, h⟩ := bnd h
                refine pf5_6 hX (pc := 361) ho0 fl_X5_109 dX5_steps_361 e_I42 ?_
                exact Kj17 ((J15, I42)) (Option.some.inj h)
              replace h := hpj40
              clear hpj40
              refine g_icmp_ge hX (pc := 353) dX5_steps_353 (tgt := 360) (by decide) (fun c39 => ?_) (fun c39 => ?_)
              · replace h := ifP c39 h
                refine g_iconst hX (pc := 356) (v := 2) dX5_steps_356 (by decide) ?_
                refine g_goto hX (pc := 357) (tgt := 361) dX5_steps_357 (by decide) ?_
                exact Kj40 2 (Option.some.inj h)
              · replace h := ifN c39 h
                refine g_iconst hX (pc := 360) (v := 4) dX5_steps_360 (by decide) ?_
                exact Kj40 4 (Option.some.inj h)
            obtain ⟨kl28, hkl28⟩ := lp_ex hpl28
            clear hpl28 h
            have Ll28 : ∀ k : Nat, ∀ (I27 : MI), lpN k (b_X5_steps_265 o0 J15) I27 = some p38 → GW E X (QX E X 0 0 none z Jz Iz) 2 265 [(0, .ref o0), (1, .int r11)] [] z J15 I27 0 0 := by
              intro k
              induction k with
              | zero => intro I27 h; cases h
              | succ k ihl28 =>
                intro I27 h
                obtain ⟨wl28, h, hwl28⟩ := lpN_s h
                unfold b_X5_steps_265 at h
                try dsimp only at h
                refine g_aload_n hX (pc := 265) (i := 0) dX5_steps_265 rfl 0 rfl ?_
                refine g_aload_n hX (pc := 266) (i := 0) dX5_steps_266 rfl 0 rfl ?_
                refine gf5_5 hX (pc := 267) ho0 fl_X5_99 dX5_steps_267 ?_
                obtain ⟨r29, e_r29, h⟩ := bnd h
                refine g_callVi hX (pc := 270) (d := d + 0) hr0 [.int (I27 o0 5)] (c := 5) (ct_X5_see (d := d + 0) ho0 e_r29) ho0.1.1 ho0.1.2 (by decide) rfl co_X5_see ml_X5_105 im_X5_see sl_X5_see ini_X5 nm_X5_see (by decide) ⟨Nat.le_refl _, Nat.le_refl _⟩ (Nat.le_refl _) (Nat.le_of_ble_eq_true rfl) rfl dX5_steps_270 ?_
                refine g_i2l hX (pc := 273) dX5_steps_273 ?_
                refine g_ldc2 hX (pc := 274) cst_X5_129 dX5_steps_274 ?_
                refine g_ldc2 hX (pc := 277) cst_X5_131 dX5_steps_277 ?_
                obtain ⟨r30, e_r30, h⟩ := bnd h
                refine g_callSi hX (pc := 280) (d := d + 0) hr0 [.long r29.toInt64, .long 48, .long 57] (ct_X5_within (d := d + 0)  e_r30) co_X5_within ml_X5_123 sta_X5_within ini_X5 nm_X5_within (by decide) ⟨Nat.le_refl _, Nat.le_refl _⟩ (Nat.le_refl _) (Nat.le_of_ble_eq_true rfl) rfl dX5_steps_280 ?_
                refine g_if_eq hX (pc := 283) dX5_steps_283 (tgt := 342) (by decide) (fun c31 => ?_) (fun c31 => ?_)
                · replace h := ifP c31 h
                  obtain rfl := Option.some.inj h
                  exact Kl28 I27 hwl28
                · replace h := ifN c31 h
                  refine g_aload_n hX (pc := 286) (i := 0) dX5_steps_286 rfl 0 rfl ?_
                  refine g_aload_n hX (pc := 287) (i := 0) dX5_steps_287 rfl 0 rfl ?_
                  refine gf5_5 hX (pc := 288) ho0 fl_X5_99 dX5_steps_288 ?_
                  refine g_aload_n hX (pc := 291) (i := 0) dX5_steps_291 rfl 0 rfl ?_
                  refine gf5_4 hX (pc := 292) ho0 fl_X5_102 dX5_steps_292 ?_
                  refine g_isub hX (pc := 295) dX5_steps_295 ?_
                  refine g_iconst hX (pc := 296) (v := 2) dX5_steps_296 (by decide) ?_
                  obtain ⟨p35, hpj33, h⟩ := bnd h
                  have Kj33 : ∀ qj33 : Int32, qj33 = p35 → GW E X (QX E X 0 0 none z Jz Iz) 2 326 [(0, .ref o0), (1, .int r11)] [.int qj33, .ref o0] z J15 I27 0 0 := by
                    intro qj33 hqj33
                    subst hqj33
                    obtain ⟨I36, e_I36, h⟩ := bnd h
                    refine pf5_7 hX (pc := 326) ho0 fl_X5_112 dX5_steps_326 e_I36 ?_
                    refine g_aload_n hX (pc := 329) (i := 0) dX5_steps_329 rfl 0 rfl ?_
                    refine g_dup hX (pc := 330) dX5_steps_330 rfl ?_
                    refine gf5_5 hX (pc := 331) ho0 fl_X5_99 dX5_steps_331 ?_
                    refine g_iconst hX (pc := 334) (v := 1) dX5_steps_334 (by decide) ?_
                    refine g_iadd hX (pc := 335) dX5_steps_335 ?_
                    obtain ⟨I37, e_I37, h⟩ := bnd h
                    refine pf5_5 hX (pc := 336) ho0 fl_X5_99 dX5_steps_336 e_I37 ?_
                    refine g_goto hX (pc := 339) (tgt := 265) dX5_steps_339 (by decide) ?_
                    obtain rfl := Option.some.inj h
                    exact ihl28 I37 hwl28
                  replace h := hpj33
                  clear hpj33
                  refine g_icmp_ge hX (pc := 297) dX5_steps_297 (tgt := 322) (by decide) (fun c32 => ?_) (fun c32 => ?_)
                  · replace h := ifP c32 h
                    refine g_bipush hX (pc := 300) (v := 10) dX5_steps_300 (by decide) ?_
                    refine g_aload_n hX (pc := 302) (i := 0) dX5_steps_302 rfl 0 rfl ?_
                    refine gf5_7 hX (pc := 303) ho0 fl_X5_112 dX5_steps_303 ?_
                    refine g_imul hX (pc := 306) dX5_steps_306 ?_
                    refine g_aload_n hX (pc := 307) (i := 0) dX5_steps_307 rfl 0 rfl ?_
                    refine g_aload_n hX (pc := 308) (i := 0) dX5_steps_308 rfl 0 rfl ?_
                    refine gf5_5 hX (pc := 309) ho0 fl_X5_99 dX5_steps_309 ?_
                    obtain ⟨r34, e_r34, h⟩ := bnd h
                    refine g_callVi hX (pc := 312) (d := d + 0) hr0 [.int (I27 o0 5)] (c := 5) (ct_X5_see (d := d + 0) ho0 e_r34) ho0.1.1 ho0.1.2 (by decide) rfl co_X5_see ml_X5_105 im_X5_see sl_X5_see ini_X5 nm_X5_see (by decide) ⟨Nat.le_refl _, Nat.le_refl _⟩ (Nat.le_refl _) (Nat.le_of_ble_eq_true rfl) rfl dX5_steps_312 ?_
                    refine g_iadd hX (pc := 315) dX5_steps_315 ?_
                    refine g_bipush hX (pc := 316) (v := 48) dX5_steps_316 (by decide) ?_
                    refine g_isub hX (pc := 318) dX5_steps_318 ?_
                    refine g_goto hX (pc := 319) (tgt := 326) dX5_steps_319 (by decide) ?_
                    exact Kj33 (((10 * (I27 o0 7)) + r34) - 48) (Option.some.inj h)
                  · replace h := ifN c32 h
                    refine g_aload_n hX (pc := 322) (i := 0) dX5_steps_322 rfl 0 rfl ?_
                    refine gf5_7 hX (pc := 323) ho0 fl_X5_112 dX5_steps_323 ?_
                    exact Kj33 (I27 o0 7) (Option.some.inj h)
            exact Ll28 kl28 I26 hkl28
        · replace h := ifN c23 h
          refine g_aload_n hX (pc := 130) (i := 0) dX5_steps_130 rfl 0 rfl ?_
          refine g_aload_n hX (pc := 131) (i := 0) dX5_steps_131 rfl 0 rfl ?_
          refine gf5_4 hX (pc := 132) ho0 fl_X5_102 dX5_steps_132 ?_
          obtain ⟨I43, e_I43, h⟩ := bnd h
          refine pf5_5 hX (pc := 135) ho0 fl_X5_99 dX5_steps_135 e_I43 ?_
          obtain ⟨p56, hpl46, h⟩ := bnd h
          have Kl46 : ∀ ql46 : MJ × MI, ql46 = p56 → GW E X (QX E X 0 0 none z Jz Iz) 2 217 [(0, .ref o0), (1, .int r11)] [] z ql46.1 ql46.2 0 0 := by
            intro ql46 hql46
            subst hql46
            refine g_aload_n hX (pc := 217) (i := 0) dX5_steps_217 rfl 0 rfl ?_
            refine g_aload_n hX (pc := 218) (i := 0) dX5_steps_218 rfl 0 rfl ?_
            refine gf5_5 hX (pc := 219) ho0 fl_X5_99 dX5_steps_219 ?_
            refine g_aload_n hX (pc := 222) (i := 0) dX5_steps_222 rfl 0 rfl ?_
            refine gf5_4 hX (pc := 223) ho0 fl_X5_102 dX5_steps_223 ?_
            refine g_isub hX (pc := 226) dX5_steps_226 ?_
            refine g_bipush hX (pc := 227) (v := 7) dX5_steps_227 (by decide) ?_
            obtain ⟨p59, hpj58, h⟩ := bnd h
            have Kj58 : ∀ qj58 : Int32, qj58 = p59 → GW E X (QX E X 0 0 none z Jz Iz) 2 237 [(0, .ref o0), (1, .int r11)] [.int qj58, .ref o0] z ql46.1 ql46.2 0 0 := by
              intro qj58 hqj58
              subst hqj58
              obtain ⟨I60, e_I60, h⟩ := bnd h
              refine pf5_6 hX (pc := 237) ho0 fl_X5_109 dX5_steps_237 e_I60 ?_
              refine g_goto hX (pc := 240) (tgt := 364) dX5_steps_240 (by decide) ?_
              exact Kj17 ((ql46.1, I60)) (Option.some.inj h)
            replace h := hpj58
            clear hpj58
            refine g_icmp_ge hX (pc := 229) dX5_steps_229 (tgt := 236) (by decide) (fun c57 => ?_) (fun c57 => ?_)
            · replace h := ifP c57 h
              refine g_iconst hX (pc := 232) (v := 1) dX5_steps_232 (by decide) ?_
              refine g_goto hX (pc := 233) (tgt := 237) dX5_steps_233 (by decide) ?_
              exact Kj58 1 (Option.some.inj h)
            · replace h := ifN c57 h
              refine g_iconst hX (pc := 236) (v := 4) dX5_steps_236 (by decide) ?_
              exact Kj58 4 (Option.some.inj h)
          obtain ⟨kl46, hkl46⟩ := lp_ex hpl46
          clear hpl46 h
          have Ll46 : ∀ k : Nat, ∀ (J44 : MJ) (I45 : MI), lpN k (b_X5_steps_138 o0) ((J44, I45)) = some p56 → GW E X (QX E X 0 0 none z Jz Iz) 2 138 [(0, .ref o0), (1, .int r11)] [] z J44 I45 0 0 := by
            intro k
            induction k with
            | zero => intro J44 I45 h; cases h
            | succ k ihl46 =>
              intro J44 I45 h
              obtain ⟨wl46, h, hwl46⟩ := lpN_s h
              unfold b_X5_steps_138 at h
              try dsimp only at h
              refine g_aload_n hX (pc := 138) (i := 0) dX5_steps_138 rfl 0 rfl ?_
              refine g_aload_n hX (pc := 139) (i := 0) dX5_steps_139 rfl 0 rfl ?_
              refine gf5_5 hX (pc := 140) ho0 fl_X5_99 dX5_steps_140 ?_
              obtain ⟨r47, e_r47, h⟩ := bnd h
              refine g_callVi hX (pc := 143) (d := d + 0) hr0 [.int (I45 o0 5)] (c := 5) (ct_X5_see (d := d + 0) ho0 e_r47) ho0.1.1 ho0.1.2 (by decide) rfl co_X5_see ml_X5_105 im_X5_see sl_X5_see ini_X5 nm_X5_see (by decide) ⟨Nat.le_refl _, Nat.le_refl _⟩ (Nat.le_refl _) (Nat.le_of_ble_eq_true rfl) rfl dX5_steps_143 ?_
              refine g_i2l hX (pc := 146) dX5_steps_146 ?_
              refine g_ldc2 hX (pc := 147) cst_X5_119 dX5_steps_147 ?_
              refine g_ldc2 hX (pc := 150) cst_X5_121 dX5_steps_150 ?_
              obtain ⟨r48, e_r48, h⟩ := bnd h
              refine g_callSi hX (pc := 153) (d := d + 0) hr0 [.long r47.toInt64, .long 97, .long 122] (ct_X5_within (d := d + 0)  e_r48) co_X5_within ml_X5_123 sta_X5_within ini_X5 nm_X5_within (by decide) ⟨Nat.le_refl _, Nat.le_refl _⟩ (Nat.le_refl _) (Nat.le_of_ble_eq_true rfl) rfl dX5_steps_153 ?_
              refine g_if_eq hX (pc := 156) dX5_steps_156 (tgt := 217) (by decide) (fun c49 => ?_) (fun c49 => ?_)
              · replace h := ifP c49 h
                obtain rfl := Option.some.inj h
                exact Kl46 ((J44, I45)) hwl46
              · replace h := ifN c49 h
                refine g_aload_n hX (pc := 159) (i := 0) dX5_steps_159 rfl 0 rfl ?_
                refine g_aload_n hX (pc := 160) (i := 0) dX5_steps_160 rfl 0 rfl ?_
                refine gf5_5 hX (pc := 161) ho0 fl_X5_99 dX5_steps_161 ?_
                refine g_aload_n hX (pc := 164) (i := 0) dX5_steps_164 rfl 0 rfl ?_
                refine gf5_4 hX (pc := 165) ho0 fl_X5_102 dX5_steps_165 ?_
                refine g_isub hX (pc := 168) dX5_steps_168 ?_
                refine g_bipush hX (pc := 169) (v := 6) dX5_steps_169 (by decide) ?_
                obtain ⟨p53, hpj51, h⟩ := bnd h
                have Kj51 : ∀ qj51 : Int64, qj51 = p53 → GW E X (QX E X 0 0 none z Jz Iz) 2 201 [(0, .ref o0), (1, .int r11)] [.long qj51, .ref o0] z J44 I45 0 0 := by
                  intro qj51 hqj51
                  subst hqj51
                  obtain ⟨J54, e_J54, h⟩ := bnd h
                  refine pf5_8 hX (pc := 201) ho0 fl_X5_115 dX5_steps_201 e_J54 ?_
                  refine g_aload_n hX (pc := 204) (i := 0) dX5_steps_204 rfl 0 rfl ?_
                  refine g_dup hX (pc := 205) dX5_steps_205 rfl ?_
                  refine gf5_5 hX (pc := 206) ho0 fl_X5_99 dX5_steps_206 ?_
                  refine g_iconst hX (pc := 209) (v := 1) dX5_steps_209 (by decide) ?_
                  refine g_iadd hX (pc := 210) dX5_steps_210 ?_
                  obtain ⟨I55, e_I55, h⟩ := bnd h
                  refine pf5_5 hX (pc := 211) ho0 fl_X5_99 dX5_steps_211 e_I55 ?_
                  refine g_goto hX (pc := 214) (tgt := 138) dX5_steps_214 (by decide) ?_
                  obtain rfl := Option.some.inj h
                  exact ihl46 J54 I55 hwl46
                replace h := hpj51
                clear hpj51
                refine g_icmp_ge hX (pc := 171) dX5_steps_171 (tgt := 197) (by decide) (fun c50 => ?_) (fun c50 => ?_)
                · replace h := ifP c50 h
                  refine g_aload_n hX (pc := 174) (i := 0) dX5_steps_174 rfl 0 rfl ?_
                  refine gf5_8 hX (pc := 175) ho0 fl_X5_115 dX5_steps_175 ?_
                  refine g_iconst hX (pc := 178) (v := 5) dX5_steps_178 (by decide) ?_
                  refine g_lshl hX (pc := 179) dX5_steps_179 ?_
                  refine g_aload_n hX (pc := 180) (i := 0) dX5_steps_180 rfl 0 rfl ?_
                  refine g_aload_n hX (pc := 181) (i := 0) dX5_steps_181 rfl 0 rfl ?_
                  refine gf5_5 hX (pc := 182) ho0 fl_X5_99 dX5_steps_182 ?_
                  obtain ⟨r52, e_r52, h⟩ := bnd h
                  refine g_callVi hX (pc := 185) (d := d + 0) hr0 [.int (I45 o0 5)] (c := 5) (ct_X5_see (d := d + 0) ho0 e_r52) ho0.1.1 ho0.1.2 (by decide) rfl co_X5_see ml_X5_105 im_X5_see sl_X5_see ini_X5 nm_X5_see (by decide) ⟨Nat.le_refl _, Nat.le_refl _⟩ (Nat.le_refl _) (Nat.le_of_ble_eq_true rfl) rfl dX5_steps_185 ?_
                  refine g_i2l hX (pc := 188) dX5_steps_188 ?_
                  refine g_ldc2 hX (pc := 189) cst_X5_127 dX5_steps_189 ?_
                  refine g_lsub hX (pc := 192) dX5_steps_192 ?_
                  refine g_lor hX (pc := 193) dX5_steps_193 ?_
                  refine g_goto hX (pc := 194) (tgt := 201) dX5_steps_194 (by decide) ?_
                  exact Kj51 (((J44 o0 8) <<< ((5 : Int32).toInt64 &&& 63)) ||| (r52.toInt64 - 96)) (Option.some.inj h)
                · replace h := ifN c50 h
                  refine g_aload_n hX (pc := 197) (i := 0) dX5_steps_197 rfl 0 rfl ?_
                  refine gf5_8 hX (pc := 198) ho0 fl_X5_115 dX5_steps_198 ?_
                  exact Kj51 (J44 o0 8) (Option.some.inj h)
          exact Ll46 kl46 J15 I43 hkl46
  obtain ⟨kl3, hkl3⟩ := lp_ex hpl3
  clear hpl3 h
  have Ll3 : ∀ k : Nat, ∀ (I2 : MI), lpN k (b_X5_steps_8 o0 J) I2 = some p10 → GW E X (QX E X 0 0 none z Jz Iz) 2 8 [(0, .ref o0)] [] z J I2 0 0 := by
    intro k
    induction k with
    | zero => intro I2 h; cases h
    | succ k ihl3 =>
      intro I2 h
      obtain ⟨wl3, h, hwl3⟩ := lpN_s h
      unfold b_X5_steps_8 at h
      try dsimp only at h
      refine g_aload_n hX (pc := 8) (i := 0) dX5_steps_8 rfl 0 rfl ?_
      refine g_aload_n hX (pc := 9) (i := 0) dX5_steps_9 rfl 0 rfl ?_
      refine gf5_4 hX (pc := 10) ho0 fl_X5_102 dX5_steps_10 ?_
      obtain ⟨r4, e_r4, h⟩ := bnd h
      refine g_callVi hX (pc := 13) (d := d + 0) hr0 [.int (I2 o0 4)] (c := 5) (ct_X5_see (d := d + 0) ho0 e_r4) ho0.1.1 ho0.1.2 (by decide) rfl co_X5_see ml_X5_105 im_X5_see sl_X5_see ini_X5 nm_X5_see (by decide) ⟨Nat.le_refl _, Nat.le_refl _⟩ (Nat.le_refl _) (Nat.le_of_ble_eq_true rfl) rfl dX5_steps_13 ?_
      refine g_bipush hX (pc := 16) (v := 32) dX5_steps_16 (by decide) ?_
      refine g_icmp_eq hX (pc := 18) dX5_steps_18 (tgt := 34) (by decide) (fun c5 => ?_) (fun c5 => ?_)
      · replace h := ifP c5 h
        refine g_aload_n hX (pc := 34) (i := 0) dX5_steps_34 rfl 0 rfl ?_
        refine g_dup hX (pc := 35) dX5_steps_35 rfl ?_
        refine gf5_4 hX (pc := 36) ho0 fl_X5_102 dX5_steps_36 ?_
        refine g_iconst hX (pc := 39) (v := 1) dX5_steps_39 (by decide) ?_
        refine g_iadd hX (pc := 40) dX5_steps_40 ?_
        obtain ⟨I6, e_I6, h⟩ := bnd h
        refine pf5_4 hX (pc := 41) ho0 fl_X5_102 dX5_steps_41 e_I6 ?_
        refine g_goto hX (pc := 44) (tgt := 8) dX5_steps_44 (by decide) ?_
        obtain rfl := Option.some.inj h
        exact ihl3 I6 hwl3
      · replace h := ifN c5 h
        refine g_aload_n hX (pc := 21) (i := 0) dX5_steps_21 rfl 0 rfl ?_
        refine g_aload_n hX (pc := 22) (i := 0) dX5_steps_22 rfl 0 rfl ?_
        refine gf5_4 hX (pc := 23) ho0 fl_X5_102 dX5_steps_23 ?_
        obtain ⟨r7, e_r7, h⟩ := bnd h
        refine g_callVi hX (pc := 26) (d := d + 0) hr0 [.int (I2 o0 4)] (c := 5) (ct_X5_see (d := d + 0) ho0 e_r7) ho0.1.1 ho0.1.2 (by decide) rfl co_X5_see ml_X5_105 im_X5_see sl_X5_see ini_X5 nm_X5_see (by decide) ⟨Nat.le_refl _, Nat.le_refl _⟩ (Nat.le_refl _) (Nat.le_of_ble_eq_true rfl) rfl dX5_steps_26 ?_
        refine g_bipush hX (pc := 29) (v := 10) dX5_steps_29 (by decide) ?_
        refine g_icmp_ne hX (pc := 31) dX5_steps_31 (tgt := 47) (by decide) (fun c8 => ?_) (fun c8 => ?_)
        · replace h := ifP c8 h
          refine g_aload_n hX (pc := 34) (i := 0) dX5_steps_34 rfl 0 rfl ?_
          refine g_dup hX (pc := 35) dX5_steps_35 rfl ?_
          refine gf5_4 hX (pc := 36) ho0 fl_X5_102 dX5_steps_36 ?_
          refine g_iconst hX (pc := 39) (v := 1) dX5_steps_39 (by decide) ?_
          refine g_iadd hX (pc := 40) dX5_steps_40 ?_
          obtain ⟨I9, e_I9, h⟩ := bnd h
          refine pf5_4 hX (pc := 41) ho0 fl_X5_102 dX5_steps_41 e_I9 ?_
          refine g_goto hX (pc := 44) (tgt := 8) dX5_steps_44 (by decide) ?_
          obtain rfl := Option.some.inj h
          exact ihl3 I9 hwl3
        · replace h := ifN c8 h
          obtain rfl := Option.some.inj h
          exact Kl3 I2 hwl3
  exact Ll3 kl3 I1 hkl3
noncomputable def f_X5_must (o0 : Nat) (x1 : Int32) (x2 : Int32) (J : MJ) (I : MI) : Option (Int32 × MI) :=
  (if (I o0 9) = 0 then
    if x1 = 0 then
      (wf I o0 9 x2).bind fun I4 =>
      (wf I4 o0 10 (I4 o0 4)).bind fun I5 =>
      some I5
    else
      some I
  else
    some I).bind fun (p6 : MI) =>
  (if (p6 o0 9) = 0 then
    some 1
  else
    some 0).bind fun (p9 : Int32) =>
  (gb p9).bind fun b10 =>
  some ((p9, p6))
theorem nm_X5_must : yX5_must.cls ≠ "java/lang/invoke/MethodHandle" ∧ yX5_must.cls ≠ "java/lang/invoke/VarHandle" ∧ (parseMethodDescriptor yX5_must.desc).map (fun d => d.parameters.length) = some 2 := by decide +kernel
set_option maxRecDepth 100000 in
set_option maxHeartbeats 4000000 in
theorem ct_X5_must {E : Ev} {d : Nat} {z : Sh} {J : MJ} {I : MI} {o0 : Nat} {x1 : Int32} {x2 : Int32} {rr : Int32} {Iz : MI} (ho0 : oX5 z o0) (h : f_X5_must o0 x1 x2 J I = some ((rr, Iz))) : Ct E (d + 0) yX5_must cX5_must 3 (some .boolean) 0 0 [.ref o0, .int x1, .int x2] z J I (some (.int rr)) z J Iz := by
  unfold f_X5_must at h
  refine Ct.of (own := RX5) (ls := [(0, .ref o0), (1, .int x1), (2, .int x2)]) (by decide) rfl (Nat.le_of_ble_eq_true rfl) rfl ?_
  intro X hr0 hnm hX
  refine g_aload_n hX (pc := 0) (i := 0) dX5_must_0 rfl 0 rfl ?_
  refine gf5_9 hX (pc := 1) ho0 fl_X5_133 dX5_must_1 ?_
  obtain ⟨p6, hpj2, h⟩ := bnd h
  have Kj2 : ∀ qj2 : MI, qj2 = p6 → GW E X (QX E X 0 0 (some (.int rr)) z J Iz) 3 24 [(0, .ref o0), (1, .int x1), (2, .int x2)] [] z J qj2 0 0 := by
    intro qj2 hqj2
    subst hqj2
    refine g_aload_n hX (pc := 24) (i := 0) dX5_must_24 rfl 0 rfl ?_
    refine gf5_9 hX (pc := 25) ho0 fl_X5_133 dX5_must_25 ?_
    obtain ⟨p9, hpj8, h⟩ := bnd h
    have Kj8 : ∀ qj8 : Int32, qj8 = p9 → GW E X (QX E X 0 0 (some (.int rr)) z J Iz) 3 36 [(0, .ref o0), (1, .int x1), (2, .int x2)] [.int qj8] z J qj2 0 0 := by
      intro qj8 hqj8
      subst hqj8
      obtain ⟨b10, e_b10, h⟩ := bnd h
      replace h := Option.some.inj h
      obtain ⟨rfl, rfl⟩ := Prod.mk.inj h
      exact g_zreturn hX (gb_some e_b10).1 (Nat.le_refl _) (Nat.le_refl _) dX5_must_36
    replace h := hpj8
    clear hpj8
    refine g_if_ne hX (pc := 28) dX5_must_28 (tgt := 35) (by decide) (fun c7 => ?_) (fun c7 => ?_)
    · replace h := ifP c7 h
      refine g_iconst hX (pc := 31) (v := 1) dX5_must_31 (by decide) ?_
      refine g_goto hX (pc := 32) (tgt := 36) dX5_must_32 (by decide) ?_
      exact Kj8 1 (Option.some.inj h)
    · replace h := ifN c7 h
      refine g_iconst hX (pc := 35) (v := 0) dX5_must_35 (by decide) ?_
      exact Kj8 0 (Option.some.inj h)
  replace h := hpj2
  clear hpj2
  refine g_if_ne hX (pc := 4) dX5_must_4 (tgt := 24) (by decide) (fun c1 => ?_) (fun c1 => ?_)
  · replace h := ifP c1 h
    refine g_iload_n hX (pc := 7) (i := 1) dX5_must_7 rfl 1 rfl ?_
    refine g_if_ne hX (pc := 8) dX5_must_8 (tgt := 24) (by decide) (fun c3 => ?_) (fun c3 => ?_)
    · replace h := ifP c3 h
      refine g_aload_n hX (pc := 11) (i := 0) dX5_must_11 rfl 0 rfl ?_
      refine g_iload_n hX (pc := 12) (i := 2) dX5_must_12 rfl 2 rfl ?_
      obtain ⟨I4, e_I4, h⟩ := bnd h
      refine pf5_9 hX (pc := 13) ho0 fl_X5_133 dX5_must_13 e_I4 ?_
      refine g_aload_n hX (pc := 16) (i := 0) dX5_must_16 rfl 0 rfl ?_
      refine g_aload_n hX (pc := 17) (i := 0) dX5_must_17 rfl 0 rfl ?_
      refine gf5_4 hX (pc := 18) ho0 fl_X5_102 dX5_must_18 ?_
      obtain ⟨I5, e_I5, h⟩ := bnd h
      refine pf5_10 hX (pc := 21) ho0 fl_X5_136 dX5_must_21 e_I5 ?_
      exact Kj2 I5 (Option.some.inj h)
    · replace h := ifN c3 h
      exact Kj2 I (Option.some.inj h)
  · replace h := ifN c1 h
    exact Kj2 I (Option.some.inj h)
noncomputable def f_X5_is (o0 : Nat) (x1 : Nat) (J : MJ) (I : MI) : Option (Int32) :=
  (if (I o0 6) = 1 then
    (f_X5_spelled x1).bind fun r3 =>
    if (J o0 8) = r3 then
      some 1
    else
      some 0
  else
    some 0).bind fun (p5 : Int32) =>
  (gb p5).bind fun b6 =>
  some p5
theorem nm_X5_is : yX5_is.cls ≠ "java/lang/invoke/MethodHandle" ∧ yX5_is.cls ≠ "java/lang/invoke/VarHandle" ∧ (parseMethodDescriptor yX5_is.desc).map (fun d => d.parameters.length) = some 1 := by decide +kernel
set_option maxRecDepth 100000 in
set_option maxHeartbeats 4000000 in
theorem ct_X5_is {E : Ev} {d : Nat} {z : Sh} {J : MJ} {I : MI} {o0 : Nat} {x1 : Nat} {rr : Int32} (ho0 : oX5 z o0) (h : f_X5_is o0 x1 J I = some rr) {ad av : Nat → Nat} (hE : EvOk E ad av) : Ct E (d + 5) yX5_is cX5_is 2 (some .boolean) 0 0 [.ref o0, .ref (ad x1)] z J I (some (.int rr)) z J I := by
  unfold f_X5_is at h
  refine Ct.of (own := RX5) (ls := [(0, .ref o0), (1, .ref (ad x1))]) (by decide) rfl (Nat.le_of_ble_eq_true rfl) rfl ?_
  intro X hr0 hnm hX
  refine g_aload_n hX (pc := 0) (i := 0) dX5_is_0 rfl 0 rfl ?_
  refine gf5_6 hX (pc := 1) ho0 fl_X5_109 dX5_is_1 ?_
  refine g_iconst hX (pc := 4) (v := 1) dX5_is_4 (by decide) ?_
  obtain ⟨p5, hpj2, h⟩ := bnd h
  have Kj2 : ∀ qj2 : Int32, qj2 = p5 → GW E X (QX E X 0 0 (some (.int rr)) z J I) 2 25 [(0, .ref o0), (1, .ref (ad x1))] [.int qj2] z J I 0 0 := by
    intro qj2 hqj2
    subst hqj2
    obtain ⟨b6, e_b6, h⟩ := bnd h
    obtain rfl := Option.some.inj h
    exact g_zreturn hX (gb_some e_b6).1 (Nat.le_refl _) (Nat.le_refl _) dX5_is_25
  replace h := hpj2
  clear hpj2
  refine g_icmp_ne hX (pc := 5) dX5_is_5 (tgt := 24) (by decide) (fun c1 => ?_) (fun c1 => ?_)
  · replace h := ifP c1 h
    refine g_aload_n hX (pc := 8) (i := 0) dX5_is_8 rfl 0 rfl ?_
    refine gf5_8 hX (pc := 9) ho0 fl_X5_115 dX5_is_9 ?_
    refine g_aload_n hX (pc := 12) (i := 1) dX5_is_12 rfl 1 rfl ?_
    obtain ⟨r3, e_r3, h⟩ := bnd h
    refine g_callSl hX (pc := 13) (d := d + 4) hr0 [.ref (ad x1)] (ct_X5_spelled (d := d + 0)  e_r3 hE) co_X5_spelled ml_X5_149 sta_X5_spelled ini_X5 nm_X5_spelled (by decide) ⟨Nat.le_refl _, Nat.le_refl _⟩ (Nat.le_refl _) (Nat.le_of_ble_eq_true rfl) rfl dX5_is_13 ?_
    refine g_lcmp_ne hX (pc := 16) dX5_is_16 dX5_is_17 (tgt := 24) (by decide) (fun c4 => ?_) (fun c4 => ?_)
    · replace h := ifP c4 h
      refine g_iconst hX (pc := 20) (v := 1) dX5_is_20 (by decide) ?_
      refine g_goto hX (pc := 21) (tgt := 25) dX5_is_21 (by decide) ?_
      exact Kj2 1 (Option.some.inj h)
    · replace h := ifN c4 h
      refine g_iconst hX (pc := 24) (v := 0) dX5_is_24 (by decide) ?_
      exact Kj2 0 (Option.some.inj h)
  · replace h := ifN c1 h
    refine g_iconst hX (pc := 24) (v := 0) dX5_is_24 (by decide) ?_
    exact Kj2 0 (Option.some.inj h)
noncomputable def f_X5_isName (o0 : Nat) (J : MJ) (I : MI) : Option (Int32) :=
  (if (I o0 6) = 1 then
    (f_X5_is o0 0 J I).bind fun r3 =>
    if r3 = 0 then
      (f_X5_is o0 1 J I).bind fun r5 =>
      if r5 = 0 then
        (f_X5_is o0 2 J I).bind fun r7 =>
        if r7 = 0 then
          (f_X5_is o0 3 J I).bind fun r9 =>
          if r9 = 0 then
            some 1
          else
            some 0
        else
          some 0
      else
        some 0
    else
      some 0
  else
    some 0).bind fun (p11 : Int32) =>
  (gb p11).bind fun b12 =>
  some p11
theorem nm_X5_isName : yX5_isName.cls ≠ "java/lang/invoke/MethodHandle" ∧ yX5_isName.cls ≠ "java/lang/invoke/VarHandle" ∧ (parseMethodDescriptor yX5_isName.desc).map (fun d => d.parameters.length) = some 0 := by decide +kernel
set_option maxRecDepth 100000 in
set_option maxHeartbeats 4000000 in
theorem ct_X5_isName {E : Ev} {d : Nat} {z : Sh} {J : MJ} {I : MI} {o0 : Nat} {rr : Int32} (ho0 : oX5 z o0) (h : f_X5_isName o0 J I = some rr) {ad av : Nat → Nat} (hE : EvOk E ad av) : Ct E (d + 6) yX5_isName cX5_isName 1 (some .boolean) 0 0 [.ref o0] z J I (some (.int rr)) z J I := by
  unfold f_X5_isName at h
  refine Ct.of (own := RX5) (ls := [(0, .ref o0)]) (by decide) rfl (Nat.le_of_ble_eq_true rfl) rfl ?_
  intro X hr0 hnm hX
  refine g_aload_n hX (pc := 0) (i := 0) dX5_isName_0 rfl 0 rfl ?_
  refine gf5_6 hX (pc := 1) ho0 fl_X5_109 dX5_isName_1 ?_
  refine g_iconst hX (pc := 4) (v := 1) dX5_isName_4 (by decide) ?_
  obtain ⟨p11, hpj2, h⟩ := bnd h
  have Kj2 : ∀ qj2 : Int32, qj2 = p11 → GW E X (QX E X 0 0 (some (.int rr)) z J I) 1 49 [(0, .ref o0)] [.int qj2] z J I 0 0 := by
    intro qj2 hqj2
    subst hqj2
    obtain ⟨b12, e_b12, h⟩ := bnd h
    obtain rfl := Option.some.inj h
    exact g_zreturn hX (gb_some e_b12).1 (Nat.le_refl _) (Nat.le_refl _) dX5_isName_49
  replace h := hpj2
  clear hpj2
  refine g_icmp_ne hX (pc := 5) dX5_isName_5 (tgt := 48) (by decide) (fun c1 => ?_) (fun c1 => ?_)
  · replace h := ifP c1 h
    refine g_aload_n hX (pc := 8) (i := 0) dX5_isName_8 rfl 0 rfl ?_
    refine g_ldcS hX (pc := 9) hE (tx := "holes") 0 (by decide) dX5_isName_9 ?_
    obtain ⟨r3, e_r3, h⟩ := bnd h
    refine g_callVi hX (pc := 11) (d := d + 5) hr0 [.ref (ad 0)] (c := 5) (ct_X5_is (d := d + 0) ho0 e_r3 hE) ho0.1.1 ho0.1.2 (by decide) rfl co_X5_is ml_X5_154 im_X5_is sl_X5_is ini_X5 nm_X5_is (by decide) ⟨Nat.le_refl _, Nat.le_refl _⟩ (Nat.le_refl _) (Nat.le_of_ble_eq_true rfl) rfl dX5_isName_11 ?_
    refine g_if_ne hX (pc := 14) dX5_isName_14 (tgt := 48) (by decide) (fun c4 => ?_) (fun c4 => ?_)
    · replace h := ifP c4 h
      refine g_aload_n hX (pc := 17) (i := 0) dX5_isName_17 rfl 0 rfl ?_
      refine g_ldcS hX (pc := 18) hE (tx := "wave") 1 (by decide) dX5_isName_18 ?_
      obtain ⟨r5, e_r5, h⟩ := bnd h
      refine g_callVi hX (pc := 20) (d := d + 5) hr0 [.ref (ad 1)] (c := 5) (ct_X5_is (d := d + 0) ho0 e_r5 hE) ho0.1.1 ho0.1.2 (by decide) rfl co_X5_is ml_X5_154 im_X5_is sl_X5_is ini_X5 nm_X5_is (by decide) ⟨Nat.le_refl _, Nat.le_refl _⟩ (Nat.le_refl _) (Nat.le_of_ble_eq_true rfl) rfl dX5_isName_20 ?_
      refine g_if_ne hX (pc := 23) dX5_isName_23 (tgt := 48) (by decide) (fun c6 => ?_) (fun c6 => ?_)
      · replace h := ifP c6 h
        refine g_aload_n hX (pc := 26) (i := 0) dX5_isName_26 rfl 0 rfl ?_
        refine g_ldcS hX (pc := 27) hE (tx := "item") 2 (by decide) dX5_isName_27 ?_
        obtain ⟨r7, e_r7, h⟩ := bnd h
        refine g_callVi hX (pc := 29) (d := d + 5) hr0 [.ref (ad 2)] (c := 5) (ct_X5_is (d := d + 0) ho0 e_r7 hE) ho0.1.1 ho0.1.2 (by decide) rfl co_X5_is ml_X5_154 im_X5_is sl_X5_is ini_X5 nm_X5_is (by decide) ⟨Nat.le_refl _, Nat.le_refl _⟩ (Nat.le_refl _) (Nat.le_of_ble_eq_true rfl) rfl dX5_isName_29 ?_
        refine g_if_ne hX (pc := 32) dX5_isName_32 (tgt := 48) (by decide) (fun c8 => ?_) (fun c8 => ?_)
        · replace h := ifP c8 h
          refine g_aload_n hX (pc := 35) (i := 0) dX5_isName_35 rfl 0 rfl ?_
          refine g_ldcS hX (pc := 36) hE (tx := "order") 3 (by decide) dX5_isName_36 ?_
          obtain ⟨r9, e_r9, h⟩ := bnd h
          refine g_callVi hX (pc := 38) (d := d + 5) hr0 [.ref (ad 3)] (c := 5) (ct_X5_is (d := d + 0) ho0 e_r9 hE) ho0.1.1 ho0.1.2 (by decide) rfl co_X5_is ml_X5_154 im_X5_is sl_X5_is ini_X5 nm_X5_is (by decide) ⟨Nat.le_refl _, Nat.le_refl _⟩ (Nat.le_refl _) (Nat.le_of_ble_eq_true rfl) rfl dX5_isName_38 ?_
          refine g_if_ne hX (pc := 41) dX5_isName_41 (tgt := 48) (by decide) (fun c10 => ?_) (fun c10 => ?_)
          · replace h := ifP c10 h
            refine g_iconst hX (pc := 44) (v := 1) dX5_isName_44 (by decide) ?_
            refine g_goto hX (pc := 45) (tgt := 49) dX5_isName_45 (by decide) ?_
            exact Kj2 1 (Option.some.inj h)
          · replace h := ifN c10 h
            refine g_iconst hX (pc := 48) (v := 0) dX5_isName_48 (by decide) ?_
            exact Kj2 0 (Option.some.inj h)
        · replace h := ifN c8 h
          refine g_iconst hX (pc := 48) (v := 0) dX5_isName_48 (by decide) ?_
          exact Kj2 0 (Option.some.inj h)
      · replace h := ifN c6 h
        refine g_iconst hX (pc := 48) (v := 0) dX5_isName_48 (by decide) ?_
        exact Kj2 0 (Option.some.inj h)
    · replace h := ifN c4 h
      refine g_iconst hX (pc := 48) (v := 0) dX5_isName_48 (by decide) ?_
      exact Kj2 0 (Option.some.inj h)
  · replace h := ifN c1 h
    refine g_iconst hX (pc := 48) (v := 0) dX5_isName_48 (by decide) ?_
    exact Kj2 0 (Option.some.inj h)
noncomputable def f_X5_takesNumber (o0 : Nat) (x1 : Int32) (x2 : Int32) (J : MJ) (I : MI) : Option (Int32 × MJ × MI) :=
  (if (I o0 6) = 2 then
    some 1
  else
    some 0).bind fun (p3 : Int32) =>
  (f_X5_must o0 p3 1 J I).bind fun r4 =>
  if r4.1 = 0 then
    some ((0, J, r4.2))
  else
    (f_X5_within ((r4.2 o0 7).toInt64) x1.toInt64 x2.toInt64).bind fun r6 =>
    (f_X5_must o0 r6 4 J r4.2).bind fun r7 =>
    if r7.1 = 0 then
      some ((0, J, r7.2))
    else
      (wf r7.2 o0 11 (r7.2 o0 7)).bind fun I9 =>
      (f_X5_steps o0 J I9).bind fun r10 =>
      some ((1, r10.1, r10.2))
theorem nm_X5_takesNumber : yX5_takesNumber.cls ≠ "java/lang/invoke/MethodHandle" ∧ yX5_takesNumber.cls ≠ "java/lang/invoke/VarHandle" ∧ (parseMethodDescriptor yX5_takesNumber.desc).map (fun d => d.parameters.length) = some 2 := by decide +kernel
set_option maxRecDepth 100000 in
set_option maxHeartbeats 4000000 in
theorem ct_X5_takesNumber {E : Ev} {d : Nat} {z : Sh} {J : MJ} {I : MI} {o0 : Nat} {x1 : Int32} {x2 : Int32} {rr : Int32} {Jz : MJ} {Iz : MI} (ho0 : oX5 z o0) (h : f_X5_takesNumber o0 x1 x2 J I = some ((rr, Jz, Iz))) : Ct E (d + 2) yX5_takesNumber cX5_takesNumber 3 (some .boolean) 0 0 [.ref o0, .int x1, .int x2] z J I (some (.int rr)) z Jz Iz := by
  unfold f_X5_takesNumber at h
  refine Ct.of (own := RX5) (ls := [(0, .ref o0), (1, .int x1), (2, .int x2)]) (by decide) rfl (Nat.le_of_ble_eq_true rfl) rfl ?_
  intro X hr0 hnm hX
  refine g_aload_n hX (pc := 0) (i := 0) dX5_takesNumber_0 rfl 0 rfl ?_
  refine g_aload_n hX (pc := 1) (i := 0) dX5_takesNumber_1 rfl 0 rfl ?_
  refine gf5_6 hX (pc := 2) ho0 fl_X5_109 dX5_takesNumber_2 ?_
  refine g_iconst hX (pc := 5) (v := 2) dX5_takesNumber_5 (by decide) ?_
  obtain ⟨p3, hpj2, h⟩ := bnd h
  have Kj2 : ∀ qj2 : Int32, qj2 = p3 → GW E X (QX E X 0 0 (some (.int rr)) z Jz Iz) 3 14 [(0, .ref o0), (1, .int x1), (2, .int x2)] [.int qj2, .ref o0] z J I 0 0 := by
    intro qj2 hqj2
    subst hqj2
    refine g_iconst hX (pc := 14) (v := 1) dX5_takesNumber_14 (by decide) ?_
    obtain ⟨r4, e_r4, h⟩ := bnd h
    refine g_callVi hX (pc := 15) (d := d + 1) hr0 [.int qj2, .int 1] (c := 5) (ct_X5_must (d := d + 1) ho0 e_r4) ho0.1.1 ho0.1.2 (by decide) rfl co_X5_must ml_X5_164 im_X5_must sl_X5_must ini_X5 nm_X5_must (by decide) ⟨Nat.le_refl _, Nat.le_refl _⟩ (Nat.le_refl _) (Nat.le_of_ble_eq_true rfl) rfl dX5_takesNumber_15 ?_
    refine g_if_eq hX (pc := 18) dX5_takesNumber_18 (tgt := 41) (by decide) (fun c5 => ?_) (fun c5 => ?_)
    · replace h := ifP c5 h
      refine g_iconst hX (pc := 41) (v := 0) dX5_takesNumber_41 (by decide) ?_
      replace h := Option.some.inj h
      obtain ⟨rfl, hT0⟩ := Prod.mk.inj h
      obtain ⟨rfl, rfl⟩ := Prod.mk.inj hT0
      exact g_zreturn hX (Or.inl rfl) (Nat.le_refl _) (Nat.le_refl _) dX5_takesNumber_42
    · replace h := ifN c5 h
      refine g_aload_n hX (pc := 21) (i := 0) dX5_takesNumber_21 rfl 0 rfl ?_
      refine g_aload_n hX (pc := 22) (i := 0) dX5_takesNumber_22 rfl 0 rfl ?_
      refine gf5_7 hX (pc := 23) ho0 fl_X5_112 dX5_takesNumber_23 ?_
      refine g_i2l hX (pc := 26) dX5_takesNumber_26 ?_
      refine g_iload_n hX (pc := 27) (i := 1) dX5_takesNumber_27 rfl 1 rfl ?_
      refine g_i2l hX (pc := 28) dX5_takesNumber_28 ?_
      refine g_iload_n hX (pc := 29) (i := 2) dX5_takesNumber_29 rfl 2 rfl ?_
      refine g_i2l hX (pc := 30) dX5_takesNumber_30 ?_
      obtain ⟨r6, e_r6, h⟩ := bnd h
      refine g_callSi hX (pc := 31) (d := d + 1) hr0 [.long ((r4.2 o0 7).toInt64), .long x1.toInt64, .long x2.toInt64] (ct_X5_within (d := d + 1)  e_r6) co_X5_within ml_X5_123 sta_X5_within ini_X5 nm_X5_within (by decide) ⟨Nat.le_refl _, Nat.le_refl _⟩ (Nat.le_refl _) (Nat.le_of_ble_eq_true rfl) rfl dX5_takesNumber_31 ?_
      refine g_iconst hX (pc := 34) (v := 4) dX5_takesNumber_34 (by decide) ?_
      obtain ⟨r7, e_r7, h⟩ := bnd h
      refine g_callVi hX (pc := 35) (d := d + 1) hr0 [.int r6, .int 4] (c := 5) (ct_X5_must (d := d + 1) ho0 e_r7) ho0.1.1 ho0.1.2 (by decide) rfl co_X5_must ml_X5_164 im_X5_must sl_X5_must ini_X5 nm_X5_must (by decide) ⟨Nat.le_refl _, Nat.le_refl _⟩ (Nat.le_refl _) (Nat.le_of_ble_eq_true rfl) rfl dX5_takesNumber_35 ?_
      refine g_if_ne hX (pc := 38) dX5_takesNumber_38 (tgt := 43) (by decide) (fun c8 => ?_) (fun c8 => ?_)
      · replace h := ifP c8 h
        refine g_iconst hX (pc := 41) (v := 0) dX5_takesNumber_41 (by decide) ?_
        replace h := Option.some.inj h
        obtain ⟨rfl, hT0⟩ := Prod.mk.inj h
        obtain ⟨rfl, rfl⟩ := Prod.mk.inj hT0
        exact g_zreturn hX (Or.inl rfl) (Nat.le_refl _) (Nat.le_refl _) dX5_takesNumber_42
      · replace h := ifN c8 h
        refine g_aload_n hX (pc := 43) (i := 0) dX5_takesNumber_43 rfl 0 rfl ?_
        refine g_aload_n hX (pc := 44) (i := 0) dX5_takesNumber_44 rfl 0 rfl ?_
        refine gf5_7 hX (pc := 45) ho0 fl_X5_112 dX5_takesNumber_45 ?_
        obtain ⟨I9, e_I9, h⟩ := bnd h
        refine pf5_11 hX (pc := 48) ho0 fl_X5_168 dX5_takesNumber_48 e_I9 ?_
        refine g_aload_n hX (pc := 51) (i := 0) dX5_takesNumber_51 rfl 0 rfl ?_
        obtain ⟨r10, e_r10, h⟩ := bnd h
        refine g_callVv hX (pc := 52) (d := d + 1) hr0 [] (c := 5) (ct_X5_steps (d := d + 0) ho0 e_r10) ho0.1.1 ho0.1.2 (by decide) rfl co_X5_steps ml_X5_171 im_X5_steps sl_X5_steps ini_X5 nm_X5_steps (by decide) ⟨Nat.le_refl _, Nat.le_refl _⟩ (Nat.le_refl _) (Nat.le_of_ble_eq_true rfl) rfl dX5_takesNumber_52 ?_
        refine g_iconst hX (pc := 55) (v := 1) dX5_takesNumber_55 (by decide) ?_
        replace h := Option.some.inj h
        obtain ⟨rfl, hT0⟩ := Prod.mk.inj h
        obtain ⟨rfl, rfl⟩ := Prod.mk.inj hT0
        exact g_zreturn hX (Or.inr rfl) (Nat.le_refl _) (Nat.le_refl _) dX5_takesNumber_56
  replace h := hpj2
  clear hpj2
  refine g_icmp_ne hX (pc := 6) dX5_takesNumber_6 (tgt := 13) (by decide) (fun c1 => ?_) (fun c1 => ?_)
  · replace h := ifP c1 h
    refine g_iconst hX (pc := 9) (v := 1) dX5_takesNumber_9 (by decide) ?_
    refine g_goto hX (pc := 10) (tgt := 14) dX5_takesNumber_10 (by decide) ?_
    exact Kj2 1 (Option.some.inj h)
  · replace h := ifN c1 h
    refine g_iconst hX (pc := 13) (v := 0) dX5_takesNumber_13 (by decide) ?_
    exact Kj2 0 (Option.some.inj h)
noncomputable def b_X5_plain_42 (o0 : Nat) (x1 : Int32) (s : Int32 × MI) : Option ((Int32 × MI) ⊕ (Int32 × MI)) :=
  if s.1 < ((160 * x1) + 160) then
    (wr 320 s.2 (o0 + 12) s.1 0).bind fun I10 =>
    some (.inl ((s.1 + 1, I10)))
  else
    some (.inr ((s.1, s.2)))
noncomputable def f_X5_plain (o0 : Nat) (x1 : Int32) (J : MJ) (I : MI) : Option (MI) :=
  (wr 2 I (o0 + 2) x1 0).bind fun I1 =>
  (wr 2 I1 (o0 + 3) x1 0).bind fun I2 =>
  (wr 2 I2 (o0 + 4) x1 4).bind fun I3 =>
  (wr 2 I3 (o0 + 5) x1 4).bind fun I4 =>
  (wr 2 I4 (o0 + 6) x1 30).bind fun I5 =>
  (lp (b_X5_plain_42 o0 x1) ((160 * x1, I5))).bind fun p11 =>
  some p11.2
theorem nm_X5_plain : yX5_plain.cls ≠ "java/lang/invoke/MethodHandle" ∧ yX5_plain.cls ≠ "java/lang/invoke/VarHandle" ∧ (parseMethodDescriptor yX5_plain.desc).map (fun d => d.parameters.length) = some 1 := by decide +kernel
set_option maxRecDepth 100000 in
set_option maxHeartbeats 4000000 in
theorem ct_X5_plain {E : Ev} {d : Nat} {z : Sh} {J : MJ} {I : MI} {o0 : Nat} {x1 : Int32} {Iz : MI} (ho0 : oX5 z o0) (h : f_X5_plain o0 x1 J I = some Iz) : Ct E (d + 0) yX5_plain cX5_plain 3 none 0 0 [.ref o0, .int x1] z J I none z J Iz := by
  unfold f_X5_plain at h
  refine Ct.of (own := RX5) (ls := [(0, .ref o0), (1, .int x1)]) (by decide) rfl (Nat.le_of_ble_eq_true rfl) rfl ?_
  intro X hr0 hnm hX
  refine g_aload_n hX (pc := 0) (i := 0) dX5_plain_0 rfl 0 rfl ?_
  refine gf5_13 hX (pc := 1) ho0 fl_X5_13 dX5_plain_1 ?_
  refine g_iload_n hX (pc := 4) (i := 1) dX5_plain_4 rfl 1 rfl ?_
  refine g_iconst hX (pc := 5) (v := 0) dX5_plain_5 (by decide) ?_
  obtain ⟨I1, e_I1, h⟩ := bnd h
  refine g_iastoreE hX (pc := 6) (s5_13 ho0).1 (s5_13 ho0).2.1 (s5_13 ho0).2.2.1 e_I1 dX5_plain_6 ?_
  refine g_aload_n hX (pc := 7) (i := 0) dX5_plain_7 rfl 0 rfl ?_
  refine gf5_14 hX (pc := 8) ho0 fl_X5_17 dX5_plain_8 ?_
  refine g_iload_n hX (pc := 11) (i := 1) dX5_plain_11 rfl 1 rfl ?_
  refine g_iconst hX (pc := 12) (v := 0) dX5_plain_12 (by decide) ?_
  obtain ⟨I2, e_I2, h⟩ := bnd h
  refine g_iastoreE hX (pc := 13) (s5_14 ho0).1 (s5_14 ho0).2.1 (s5_14 ho0).2.2.1 e_I2 dX5_plain_13 ?_
  refine g_aload_n hX (pc := 14) (i := 0) dX5_plain_14 rfl 0 rfl ?_
  refine gf5_15 hX (pc := 15) ho0 fl_X5_20 dX5_plain_15 ?_
  refine g_iload_n hX (pc := 18) (i := 1) dX5_plain_18 rfl 1 rfl ?_
  refine g_iconst hX (pc := 19) (v := 4) dX5_plain_19 (by decide) ?_
  obtain ⟨I3, e_I3, h⟩ := bnd h
  refine g_iastoreE hX (pc := 20) (s5_15 ho0).1 (s5_15 ho0).2.1 (s5_15 ho0).2.2.1 e_I3 dX5_plain_20 ?_
  refine g_aload_n hX (pc := 21) (i := 0) dX5_plain_21 rfl 0 rfl ?_
  refine gf5_16 hX (pc := 22) ho0 fl_X5_23 dX5_plain_22 ?_
  refine g_iload_n hX (pc := 25) (i := 1) dX5_plain_25 rfl 1 rfl ?_
  refine g_iconst hX (pc := 26) (v := 4) dX5_plain_26 (by decide) ?_
  obtain ⟨I4, e_I4, h⟩ := bnd h
  refine g_iastoreE hX (pc := 27) (s5_16 ho0).1 (s5_16 ho0).2.1 (s5_16 ho0).2.2.1 e_I4 dX5_plain_27 ?_
  refine g_aload_n hX (pc := 28) (i := 0) dX5_plain_28 rfl 0 rfl ?_
  refine gf5_17 hX (pc := 29) ho0 fl_X5_26 dX5_plain_29 ?_
  refine g_iload_n hX (pc := 32) (i := 1) dX5_plain_32 rfl 1 rfl ?_
  refine g_bipush hX (pc := 33) (v := 30) dX5_plain_33 (by decide) ?_
  obtain ⟨I5, e_I5, h⟩ := bnd h
  refine g_iastoreE hX (pc := 35) (s5_17 ho0).1 (s5_17 ho0).2.1 (s5_17 ho0).2.2.1 e_I5 dX5_plain_35 ?_
  refine g_sipush hX (pc := 36) (v := 160) dX5_plain_36 (by decide) ?_
  refine g_iload_n hX (pc := 39) (i := 1) dX5_plain_39 rfl 1 rfl ?_
  refine g_imul hX (pc := 40) dX5_plain_40 ?_
  refine g_istore_n hX (pc := 41) (i := 2) (ls' := [(0, .ref o0), (1, .int x1), (2, .int (160 * x1))]) [1, 2, 0] dX5_plain_41 rfl (by decide) rfl ?_
  obtain ⟨p11, hpl8, h⟩ := bnd h
  have Kl8 : ∀ ql8 : Int32 × MI, ql8 = p11 → GW E X (QX E X 0 0 none z J Iz) 3 68 [(0, .ref o0), (1, .int x1), (2, .int ql8.1)] [] z J ql8.2 0 0 := by
    intro ql8 hql8
    subst hql8
    obtain rfl := Option.some.inj h
    exact g_return hX (Nat.le_refl _) (Nat.le_refl _) dX5_plain_68
  obtain ⟨kl8, hkl8⟩ := lp_ex hpl8
  clear hpl8 h
  have Ll8 : ∀ k : Nat, ∀ (s6 : Int32) (I7 : MI), lpN k (b_X5_plain_42 o0 x1) ((s6, I7)) = some p11 → GW E X (QX E X 0 0 none z J Iz) 3 42 [(0, .ref o0), (1, .int x1), (2, .int s6)] [] z J I7 0 0 := by
    intro k
    induction k with
    | zero => intro s6 I7 h; cases h
    | succ k ihl8 =>
      intro s6 I7 h
      obtain ⟨wl8, h, hwl8⟩ := lpN_s h
      unfold b_X5_plain_42 at h
      try dsimp only at h
      refine g_iload_n hX (pc := 42) (i := 2) dX5_plain_42 rfl 2 rfl ?_
      refine g_sipush hX (pc := 43) (v := 160) dX5_plain_43 (by decide) ?_
      refine g_iload_n hX (pc := 46) (i := 1) dX5_plain_46 rfl 1 rfl ?_
      refine g_imul hX (pc := 47) dX5_plain_47 ?_
      refine g_sipush hX (pc := 48) (v := 160) dX5_plain_48 (by decide) ?_
      refine g_iadd hX (pc := 51) dX5_plain_51 ?_
      refine g_icmp_ge hX (pc := 52) dX5_plain_52 (tgt := 68) (by decide) (fun c9 => ?_) (fun c9 => ?_)
      · replace h := ifP c9 h
        refine g_aload_n hX (pc := 55) (i := 0) dX5_plain_55 rfl 0 rfl ?_
        refine gf5_23 hX (pc := 56) ho0 fl_X5_45 dX5_plain_56 ?_
        refine g_iload_n hX (pc := 59) (i := 2) dX5_plain_59 rfl 2 rfl ?_
        refine g_iconst hX (pc := 60) (v := 0) dX5_plain_60 (by decide) ?_
        obtain ⟨I10, e_I10, h⟩ := bnd h
        refine g_iastoreE hX (pc := 61) (s5_23 ho0).1 (s5_23 ho0).2.1 (s5_23 ho0).2.2.1 e_I10 dX5_plain_61 ?_
        refine g_iinc hX (pc := 62) (i := 2) (v := s6 + 1) (ls' := [(0, .ref o0), (1, .int x1), (2, .int (s6 + 1))]) 2 [1, 2, 0] dX5_plain_62 rfl (by rfl) (by decide) rfl ?_
        refine g_goto hX (pc := 65) (tgt := 42) dX5_plain_65 (by decide) ?_
        obtain rfl := Option.some.inj h
        exact ihl8 (s6 + 1) I10 hwl8
      · replace h := ifN c9 h
        obtain rfl := Option.some.inj h
        exact Kl8 ((s6, I7)) hwl8
  exact Ll8 kl8 (160 * x1) I5 hkl8
noncomputable def b_X5_itemNamed_2 (o0 : Nat) (J : MJ) (I : MI) (s : Int32) : Option ((Int32) ⊕ ((Int32) ⊕ (Int32))) :=
  (rd 2 (I (o0 + 2)) (I o0 12)).bind fun v3 =>
  if s < v3 then
    (rd 20 (J (o0 + 7)) ((10 * (I o0 12)) + s)).bind fun v5 =>
    if v5 = (J o0 8) then
      some (.inr (.inl s))
    else
      some (.inl (s + 1))
  else
    some (.inr (.inr s))
noncomputable def f_X5_itemNamed (o0 : Nat) (J : MJ) (I : MI) : Option (Int32) :=
  (lp (b_X5_itemNamed_2 o0 J I) 0).bind fun p7 =>
  Sum.elim (fun rr => some rr) (fun q8 =>
    some ((-1))) p7
theorem nm_X5_itemNamed : yX5_itemNamed.cls ≠ "java/lang/invoke/MethodHandle" ∧ yX5_itemNamed.cls ≠ "java/lang/invoke/VarHandle" ∧ (parseMethodDescriptor yX5_itemNamed.desc).map (fun d => d.parameters.length) = some 0 := by decide +kernel
set_option maxRecDepth 100000 in
set_option maxHeartbeats 4000000 in
theorem ct_X5_itemNamed {E : Ev} {d : Nat} {z : Sh} {J : MJ} {I : MI} {o0 : Nat} {rr : Int32} (ho0 : oX5 z o0) (h : f_X5_itemNamed o0 J I = some rr) : Ct E (d + 0) yX5_itemNamed cX5_itemNamed 2 (some .int) 0 0 [.ref o0] z J I (some (.int rr)) z J I := by
  unfold f_X5_itemNamed at h
  refine Ct.of (own := RX5) (ls := [(0, .ref o0)]) (by decide) rfl (Nat.le_of_ble_eq_true rfl) rfl ?_
  intro X hr0 hnm hX
  refine g_iconst hX (pc := 0) (v := 0) dX5_itemNamed_0 (by decide) ?_
  refine g_istore_n hX (pc := 1) (i := 1) (ls' := [(0, .ref o0), (1, .int 0)]) [1, 0] dX5_itemNamed_1 rfl (by decide) rfl ?_
  obtain ⟨p7, hpl2, h⟩ := bnd h
  have KRl2 : ∀ rl2 : Int32, Sum.inl rl2 = p7 → some rl2 = some rr := by intro rl2 hrl2; subst hrl2; exact h
  have Kl2 : ∀ q8 : Int32, Sum.inr q8 = p7 → GW E X (QX E X 0 0 (some (.int rr)) z J I) 2 45 [(0, .ref o0), (1, .int q8)] [] z J I 0 0 := by
    intro q8 hql2
    subst hql2
    refine g_iconst hX (pc := 45) (v := (-1)) dX5_itemNamed_45 (by decide) ?_
    obtain rfl := Option.some.inj h
    exact g_ireturn hX (Nat.le_refl _) (Nat.le_refl _) dX5_itemNamed_46
  obtain ⟨kl2, hkl2⟩ := lp_ex hpl2
  clear hpl2 h
  have Ll2 : ∀ k : Nat, ∀ (s1 : Int32), lpN k (b_X5_itemNamed_2 o0 J I) s1 = some p7 → GW E X (QX E X 0 0 (some (.int rr)) z J I) 2 2 [(0, .ref o0), (1, .int s1)] [] z J I 0 0 := by
    intro k
    induction k with
    | zero => intro s1 h; cases h
    | succ k ihl2 =>
      intro s1 h
      obtain ⟨wl2, h, hwl2⟩ := lpN_s h
      unfold b_X5_itemNamed_2 at h
      try dsimp only at h
      refine g_iload_n hX (pc := 2) (i := 1) dX5_itemNamed_2 rfl 1 rfl ?_
      refine g_aload_n hX (pc := 3) (i := 0) dX5_itemNamed_3 rfl 0 rfl ?_
      refine gf5_13 hX (pc := 4) ho0 fl_X5_13 dX5_itemNamed_4 ?_
      refine g_aload_n hX (pc := 7) (i := 0) dX5_itemNamed_7 rfl 0 rfl ?_
      refine gf5_12 hX (pc := 8) ho0 fl_X5_174 dX5_itemNamed_8 ?_
      obtain ⟨v3, e_v3, h⟩ := bnd h
      refine g_ialoadE hX (pc := 11) (s5_13 ho0).1 (s5_13 ho0).2.1 (s5_13 ho0).2.2.1 e_v3 dX5_itemNamed_11 ?_
      refine g_icmp_ge hX (pc := 12) dX5_itemNamed_12 (tgt := 45) (by decide) (fun c4 => ?_) (fun c4 => ?_)
      · replace h := ifP c4 h
        refine g_aload_n hX (pc := 15) (i := 0) dX5_itemNamed_15 rfl 0 rfl ?_
        refine gf5_18 hX (pc := 16) ho0 fl_X5_29 dX5_itemNamed_16 ?_
        refine g_bipush hX (pc := 19) (v := 10) dX5_itemNamed_19 (by decide) ?_
        refine g_aload_n hX (pc := 21) (i := 0) dX5_itemNamed_21 rfl 0 rfl ?_
        refine gf5_12 hX (pc := 22) ho0 fl_X5_174 dX5_itemNamed_22 ?_
        refine g_imul hX (pc := 25) dX5_itemNamed_25 ?_
        refine g_iload_n hX (pc := 26) (i := 1) dX5_itemNamed_26 rfl 1 rfl ?_
        refine g_iadd hX (pc := 27) dX5_itemNamed_27 ?_
        obtain ⟨v5, e_v5, h⟩ := bnd h
        refine g_laloadE hX (pc := 28) (s5_18 ho0).1 (s5_18 ho0).2.1 (s5_18 ho0).2.2.1 e_v5 dX5_itemNamed_28 ?_
        refine g_aload_n hX (pc := 29) (i := 0) dX5_itemNamed_29 rfl 0 rfl ?_
        refine gf5_8 hX (pc := 30) ho0 fl_X5_115 dX5_itemNamed_30 ?_
        refine g_lcmp_ne hX (pc := 33) dX5_itemNamed_33 dX5_itemNamed_34 (tgt := 39) (by decide) (fun c6 => ?_) (fun c6 => ?_)
        · replace h := ifP c6 h
          refine g_iload_n hX (pc := 37) (i := 1) dX5_itemNamed_37 rfl 1 rfl ?_
          obtain rfl := Option.some.inj h
          replace h := KRl2 _ hwl2
          obtain rfl := Option.some.inj h
          exact g_ireturn hX (Nat.le_refl _) (Nat.le_refl _) dX5_itemNamed_38
        · replace h := ifN c6 h
          refine g_iinc hX (pc := 39) (i := 1) (v := s1 + 1) (ls' := [(0, .ref o0), (1, .int (s1 + 1))]) 1 [1, 0] dX5_itemNamed_39 rfl (by rfl) (by decide) rfl ?_
          refine g_goto hX (pc := 42) (tgt := 2) dX5_itemNamed_42 (by decide) ?_
          obtain rfl := Option.some.inj h
          exact ihl2 (s1 + 1) hwl2
      · replace h := ifN c4 h
        obtain rfl := Option.some.inj h
        exact Kl2 s1 hwl2
  exact Ll2 kl2 0 hkl2
noncomputable def b_X5_isOrderNamed_2 (o0 : Nat) (J : MJ) (I : MI) (s : Int32) : Option ((Int32) ⊕ ((Int32) ⊕ (Int32))) :=
  (rd 2 (I (o0 + 3)) (I o0 12)).bind fun v3 =>
  if s < v3 then
    (rd 32 (J (o0 + 10)) ((16 * (I o0 12)) + s)).bind fun v5 =>
    if v5 = (J o0 8) then
      some (.inr (.inl 1))
    else
      some (.inl (s + 1))
  else
    some (.inr (.inr s))
noncomputable def f_X5_isOrderNamed (o0 : Nat) (J : MJ) (I : MI) : Option (Int32) :=
  (lp (b_X5_isOrderNamed_2 o0 J I) 0).bind fun p7 =>
  Sum.elim (fun rr => some rr) (fun q8 =>
    some 0) p7
theorem nm_X5_isOrderNamed : yX5_isOrderNamed.cls ≠ "java/lang/invoke/MethodHandle" ∧ yX5_isOrderNamed.cls ≠ "java/lang/invoke/VarHandle" ∧ (parseMethodDescriptor yX5_isOrderNamed.desc).map (fun d => d.parameters.length) = some 0 := by decide +kernel
set_option maxRecDepth 100000 in
set_option maxHeartbeats 4000000 in
theorem ct_X5_isOrderNamed {E : Ev} {d : Nat} {z : Sh} {J : MJ} {I : MI} {o0 : Nat} {rr : Int32} (ho0 : oX5 z o0) (h : f_X5_isOrderNamed o0 J I = some rr) : Ct E (d + 0) yX5_isOrderNamed cX5_isOrderNamed 2 (some .boolean) 0 0 [.ref o0] z J I (some (.int rr)) z J I := by
  unfold f_X5_isOrderNamed at h
  refine Ct.of (own := RX5) (ls := [(0, .ref o0)]) (by decide) rfl (Nat.le_of_ble_eq_true rfl) rfl ?_
  intro X hr0 hnm hX
  refine g_iconst hX (pc := 0) (v := 0) dX5_isOrderNamed_0 (by decide) ?_
  refine g_istore_n hX (pc := 1) (i := 1) (ls' := [(0, .ref o0), (1, .int 0)]) [1, 0] dX5_isOrderNamed_1 rfl (by decide) rfl ?_
  obtain ⟨p7, hpl2, h⟩ := bnd h
  have KRl2 : ∀ rl2 : Int32, Sum.inl rl2 = p7 → some rl2 = some rr := by intro rl2 hrl2; subst hrl2; exact h
  have Kl2 : ∀ q8 : Int32, Sum.inr q8 = p7 → GW E X (QX E X 0 0 (some (.int rr)) z J I) 2 45 [(0, .ref o0), (1, .int q8)] [] z J I 0 0 := by
    intro q8 hql2
    subst hql2
    refine g_iconst hX (pc := 45) (v := 0) dX5_isOrderNamed_45 (by decide) ?_
    obtain rfl := Option.some.inj h
    exact g_zreturn hX (Or.inl rfl) (Nat.le_refl _) (Nat.le_refl _) dX5_isOrderNamed_46
  obtain ⟨kl2, hkl2⟩ := lp_ex hpl2
  clear hpl2 h
  have Ll2 : ∀ k : Nat, ∀ (s1 : Int32), lpN k (b_X5_isOrderNamed_2 o0 J I) s1 = some p7 → GW E X (QX E X 0 0 (some (.int rr)) z J I) 2 2 [(0, .ref o0), (1, .int s1)] [] z J I 0 0 := by
    intro k
    induction k with
    | zero => intro s1 h; cases h
    | succ k ihl2 =>
      intro s1 h
      obtain ⟨wl2, h, hwl2⟩ := lpN_s h
      unfold b_X5_isOrderNamed_2 at h
      try dsimp only at h
      refine g_iload_n hX (pc := 2) (i := 1) dX5_isOrderNamed_2 rfl 1 rfl ?_
      refine g_aload_n hX (pc := 3) (i := 0) dX5_isOrderNamed_3 rfl 0 rfl ?_
      refine gf5_14 hX (pc := 4) ho0 fl_X5_17 dX5_isOrderNamed_4 ?_
      refine g_aload_n hX (pc := 7) (i := 0) dX5_isOrderNamed_7 rfl 0 rfl ?_
      refine gf5_12 hX (pc := 8) ho0 fl_X5_174 dX5_isOrderNamed_8 ?_
      obtain ⟨v3, e_v3, h⟩ := bnd h
      refine g_ialoadE hX (pc := 11) (s5_14 ho0).1 (s5_14 ho0).2.1 (s5_14 ho0).2.2.1 e_v3 dX5_isOrderNamed_11 ?_
      refine g_icmp_ge hX (pc := 12) dX5_isOrderNamed_12 (tgt := 45) (by decide) (fun c4 => ?_) (fun c4 => ?_)
      · replace h := ifP c4 h
        refine g_aload_n hX (pc := 15) (i := 0) dX5_isOrderNamed_15 rfl 0 rfl ?_
        refine gf5_21 hX (pc := 16) ho0 fl_X5_39 dX5_isOrderNamed_16 ?_
        refine g_bipush hX (pc := 19) (v := 16) dX5_isOrderNamed_19 (by decide) ?_
        refine g_aload_n hX (pc := 21) (i := 0) dX5_isOrderNamed_21 rfl 0 rfl ?_
        refine gf5_12 hX (pc := 22) ho0 fl_X5_174 dX5_isOrderNamed_22 ?_
        refine g_imul hX (pc := 25) dX5_isOrderNamed_25 ?_
        refine g_iload_n hX (pc := 26) (i := 1) dX5_isOrderNamed_26 rfl 1 rfl ?_
        refine g_iadd hX (pc := 27) dX5_isOrderNamed_27 ?_
        obtain ⟨v5, e_v5, h⟩ := bnd h
        refine g_laloadE hX (pc := 28) (s5_21 ho0).1 (s5_21 ho0).2.1 (s5_21 ho0).2.2.1 e_v5 dX5_isOrderNamed_28 ?_
        refine g_aload_n hX (pc := 29) (i := 0) dX5_isOrderNamed_29 rfl 0 rfl ?_
        refine gf5_8 hX (pc := 30) ho0 fl_X5_115 dX5_isOrderNamed_30 ?_
        refine g_lcmp_ne hX (pc := 33) dX5_isOrderNamed_33 dX5_isOrderNamed_34 (tgt := 39) (by decide) (fun c6 => ?_) (fun c6 => ?_)
        · replace h := ifP c6 h
          refine g_iconst hX (pc := 37) (v := 1) dX5_isOrderNamed_37 (by decide) ?_
          obtain rfl := Option.some.inj h
          replace h := KRl2 _ hwl2
          obtain rfl := Option.some.inj h
          exact g_zreturn hX (Or.inr rfl) (Nat.le_refl _) (Nat.le_refl _) dX5_isOrderNamed_38
        · replace h := ifN c6 h
          refine g_iinc hX (pc := 39) (i := 1) (v := s1 + 1) (ls' := [(0, .ref o0), (1, .int (s1 + 1))]) 1 [1, 0] dX5_isOrderNamed_39 rfl (by rfl) (by decide) rfl ?_
          refine g_goto hX (pc := 42) (tgt := 2) dX5_isOrderNamed_42 (by decide) ?_
          obtain rfl := Option.some.inj h
          exact ihl2 (s1 + 1) hwl2
      · replace h := ifN c4 h
        obtain rfl := Option.some.inj h
        exact Kl2 s1 hwl2
  exact Ll2 kl2 0 hkl2
noncomputable def f_X5_newName (o0 : Nat) (J : MJ) (I : MI) : Option (Int32 × MJ × MI) :=
  (f_X5_isName o0 J I).bind fun r1 =>
  (f_X5_must o0 r1 1 J I).bind fun r2 =>
  if r2.1 = 0 then
    some ((0, J, r2.2))
  else
    (f_X5_itemNamed o0 J r2.2).bind fun r4 =>
    (if r4 < 0 then
      (f_X5_isOrderNamed o0 J r2.2).bind fun r7 =>
      if r7 = 0 then
        some 1
      else
        some 0
    else
      some 0).bind fun (p9 : Int32) =>
    (f_X5_must o0 p9 2 J r2.2).bind fun r10 =>
    if r10.1 = 0 then
      some ((0, J, r10.2))
    else
      (wf J o0 26 (J o0 8)).bind fun J12 =>
      (f_X5_steps o0 J12 r10.2).bind fun r13 =>
      some ((1, r13.1, r13.2))
theorem nm_X5_newName : yX5_newName.cls ≠ "java/lang/invoke/MethodHandle" ∧ yX5_newName.cls ≠ "java/lang/invoke/VarHandle" ∧ (parseMethodDescriptor yX5_newName.desc).map (fun d => d.parameters.length) = some 0 := by decide +kernel
set_option maxRecDepth 100000 in
set_option maxHeartbeats 4000000 in
theorem ct_X5_newName {E : Ev} {d : Nat} {z : Sh} {J : MJ} {I : MI} {o0 : Nat} {rr : Int32} {Jz : MJ} {Iz : MI} (ho0 : oX5 z o0) (h : f_X5_newName o0 J I = some ((rr, Jz, Iz))) {ad av : Nat → Nat} (hE : EvOk E ad av) : Ct E (d + 7) yX5_newName cX5_newName 1 (some .boolean) 0 0 [.ref o0] z J I (some (.int rr)) z Jz Iz := by
  unfold f_X5_newName at h
  refine Ct.of (own := RX5) (ls := [(0, .ref o0)]) (by decide) rfl (Nat.le_of_ble_eq_true rfl) rfl ?_
  intro X hr0 hnm hX
  refine g_aload_n hX (pc := 0) (i := 0) dX5_newName_0 rfl 0 rfl ?_
  refine g_aload_n hX (pc := 1) (i := 0) dX5_newName_1 rfl 0 rfl ?_
  obtain ⟨r1, e_r1, h⟩ := bnd h
  refine g_callVi hX (pc := 2) (d := d + 6) hr0 [] (c := 5) (ct_X5_isName (d := d + 0) ho0 e_r1 hE) ho0.1.1 ho0.1.2 (by decide) rfl co_X5_isName ml_X5_177 im_X5_isName sl_X5_isName ini_X5 nm_X5_isName (by decide) ⟨Nat.le_refl _, Nat.le_refl _⟩ (Nat.le_refl _) (Nat.le_of_ble_eq_true rfl) rfl dX5_newName_2 ?_
  refine g_iconst hX (pc := 5) (v := 1) dX5_newName_5 (by decide) ?_
  obtain ⟨r2, e_r2, h⟩ := bnd h
  refine g_callVi hX (pc := 6) (d := d + 6) hr0 [.int r1, .int 1] (c := 5) (ct_X5_must (d := d + 6) ho0 e_r2) ho0.1.1 ho0.1.2 (by decide) rfl co_X5_must ml_X5_164 im_X5_must sl_X5_must ini_X5 nm_X5_must (by decide) ⟨Nat.le_refl _, Nat.le_refl _⟩ (Nat.le_refl _) (Nat.le_of_ble_eq_true rfl) rfl dX5_newName_6 ?_
  refine g_if_eq hX (pc := 9) dX5_newName_9 (tgt := 39) (by decide) (fun c3 => ?_) (fun c3 => ?_)
  · replace h := ifP c3 h
    refine g_iconst hX (pc := 39) (v := 0) dX5_newName_39 (by decide) ?_
    replace h := Option.some.inj h
    obtain ⟨rfl, hT0⟩ := Prod.mk.inj h
    obtain ⟨rfl, rfl⟩ := Prod.mk.inj hT0
    exact g_zreturn hX (Or.inl rfl) (Nat.le_refl _) (Nat.le_refl _) dX5_newName_40
  · replace h := ifN c3 h
    refine g_aload_n hX (pc := 12) (i := 0) dX5_newName_12 rfl 0 rfl ?_
    refine g_aload_n hX (pc := 13) (i := 0) dX5_newName_13 rfl 0 rfl ?_
    obtain ⟨r4, e_r4, h⟩ := bnd h
    refine g_callVi hX (pc := 14) (d := d + 6) hr0 [] (c := 5) (ct_X5_itemNamed (d := d + 6) ho0 e_r4) ho0.1.1 ho0.1.2 (by decide) rfl co_X5_itemNamed ml_X5_181 im_X5_itemNamed sl_X5_itemNamed ini_X5 nm_X5_itemNamed (by decide) ⟨Nat.le_refl _, Nat.le_refl _⟩ (Nat.le_refl _) (Nat.le_of_ble_eq_true rfl) rfl dX5_newName_14 ?_
    obtain ⟨p9, hpj6, h⟩ := bnd h
    have Kj6 : ∀ qj6 : Int32, qj6 = p9 → GW E X (QX E X 0 0 (some (.int rr)) z Jz Iz) 1 32 [(0, .ref o0)] [.int qj6, .ref o0] z J r2.2 0 0 := by
      intro qj6 hqj6
      subst hqj6
      refine g_iconst hX (pc := 32) (v := 2) dX5_newName_32 (by decide) ?_
      obtain ⟨r10, e_r10, h⟩ := bnd h
      refine g_callVi hX (pc := 33) (d := d + 6) hr0 [.int qj6, .int 2] (c := 5) (ct_X5_must (d := d + 6) ho0 e_r10) ho0.1.1 ho0.1.2 (by decide) rfl co_X5_must ml_X5_164 im_X5_must sl_X5_must ini_X5 nm_X5_must (by decide) ⟨Nat.le_refl _, Nat.le_refl _⟩ (Nat.le_refl _) (Nat.le_of_ble_eq_true rfl) rfl dX5_newName_33 ?_
      refine g_if_ne hX (pc := 36) dX5_newName_36 (tgt := 41) (by decide) (fun c11 => ?_) (fun c11 => ?_)
      · replace h := ifP c11 h
        refine g_iconst hX (pc := 39) (v := 0) dX5_newName_39 (by decide) ?_
        replace h := Option.some.inj h
        obtain ⟨rfl, hT0⟩ := Prod.mk.inj h
        obtain ⟨rfl, rfl⟩ := Prod.mk.inj hT0
        exact g_zreturn hX (Or.inl rfl) (Nat.le_refl _) (Nat.le_refl _) dX5_newName_40
      · replace h := ifN c11 h
        refine g_aload_n hX (pc := 41) (i := 0) dX5_newName_41 rfl 0 rfl ?_
        refine g_aload_n hX (pc := 42) (i := 0) dX5_newName_42 rfl 0 rfl ?_
        refine gf5_8 hX (pc := 43) ho0 fl_X5_115 dX5_newName_43 ?_
        obtain ⟨J12, e_J12, h⟩ := bnd h
        refine pf5_26 hX (pc := 46) ho0 fl_X5_187 dX5_newName_46 e_J12 ?_
        refine g_aload_n hX (pc := 49) (i := 0) dX5_newName_49 rfl 0 rfl ?_
        obtain ⟨r13, e_r13, h⟩ := bnd h
        refine g_callVv hX (pc := 50) (d := d + 6) hr0 [] (c := 5) (ct_X5_steps (d := d + 5) ho0 e_r13) ho0.1.1 ho0.1.2 (by decide) rfl co_X5_steps ml_X5_171 im_X5_steps sl_X5_steps ini_X5 nm_X5_steps (by decide) ⟨Nat.le_refl _, Nat.le_refl _⟩ (Nat.le_refl _) (Nat.le_of_ble_eq_true rfl) rfl dX5_newName_50 ?_
        refine g_iconst hX (pc := 53) (v := 1) dX5_newName_53 (by decide) ?_
        replace h := Option.some.inj h
        obtain ⟨rfl, hT0⟩ := Prod.mk.inj h
        obtain ⟨rfl, rfl⟩ := Prod.mk.inj hT0
        exact g_zreturn hX (Or.inr rfl) (Nat.le_refl _) (Nat.le_refl _) dX5_newName_54
    replace h := hpj6
    clear hpj6
    refine g_if_ge hX (pc := 17) dX5_newName_17 (tgt := 31) (by decide) (fun c5 => ?_) (fun c5 => ?_)
    · replace h := ifP c5 h
      refine g_aload_n hX (pc := 20) (i := 0) dX5_newName_20 rfl 0 rfl ?_
      obtain ⟨r7, e_r7, h⟩ := bnd h
      refine g_callVi hX (pc := 21) (d := d + 6) hr0 [] (c := 5) (ct_X5_isOrderNamed (d := d + 6) ho0 e_r7) ho0.1.1 ho0.1.2 (by decide) rfl co_X5_isOrderNamed ml_X5_184 im_X5_isOrderNamed sl_X5_isOrderNamed ini_X5 nm_X5_isOrderNamed (by decide) ⟨Nat.le_refl _, Nat.le_refl _⟩ (Nat.le_refl _) (Nat.le_of_ble_eq_true rfl) rfl dX5_newName_21 ?_
      refine g_if_ne hX (pc := 24) dX5_newName_24 (tgt := 31) (by decide) (fun c8 => ?_) (fun c8 => ?_)
      · replace h := ifP c8 h
        refine g_iconst hX (pc := 27) (v := 1) dX5_newName_27 (by decide) ?_
        refine g_goto hX (pc := 28) (tgt := 32) dX5_newName_28 (by decide) ?_
        exact Kj6 1 (Option.some.inj h)
      · replace h := ifN c8 h
        refine g_iconst hX (pc := 31) (v := 0) dX5_newName_31 (by decide) ?_
        exact Kj6 0 (Option.some.inj h)
    · replace h := ifN c5 h
      refine g_iconst hX (pc := 31) (v := 0) dX5_newName_31 (by decide) ?_
      exact Kj6 0 (Option.some.inj h)
noncomputable def f_X5_holesLine (o0 : Nat) (J : MJ) (I : MI) : Option (Int32 × MJ × MI) :=
  (f_X5_takesNumber o0 1 8 J I).bind fun r1 =>
  if r1.1 = 0 then
    some ((0, r1.2.1, r1.2.2))
  else
    (wr 2 r1.2.2 (o0 + 4) (r1.2.2 o0 12) (r1.2.2 o0 11)).bind fun I3 =>
    (wf I3 o0 24 1).bind fun I4 =>
    some ((1, r1.2.1, I4))
theorem nm_X5_holesLine : yX5_holesLine.cls ≠ "java/lang/invoke/MethodHandle" ∧ yX5_holesLine.cls ≠ "java/lang/invoke/VarHandle" ∧ (parseMethodDescriptor yX5_holesLine.desc).map (fun d => d.parameters.length) = some 0 := by decide +kernel
set_option maxRecDepth 100000 in
set_option maxHeartbeats 4000000 in
theorem ct_X5_holesLine {E : Ev} {d : Nat} {z : Sh} {J : MJ} {I : MI} {o0 : Nat} {rr : Int32} {Jz : MJ} {Iz : MI} (ho0 : oX5 z o0) (h : f_X5_holesLine o0 J I = some ((rr, Jz, Iz))) : Ct E (d + 3) yX5_holesLine cX5_holesLine 1 (some .boolean) 0 0 [.ref o0] z J I (some (.int rr)) z Jz Iz := by
  unfold f_X5_holesLine at h
  refine Ct.of (own := RX5) (ls := [(0, .ref o0)]) (by decide) rfl (Nat.le_of_ble_eq_true rfl) rfl ?_
  intro X hr0 hnm hX
  refine g_aload_n hX (pc := 0) (i := 0) dX5_holesLine_0 rfl 0 rfl ?_
  refine g_iconst hX (pc := 1) (v := 1) dX5_holesLine_1 (by decide) ?_
  refine g_bipush hX (pc := 2) (v := 8) dX5_holesLine_2 (by decide) ?_
  obtain ⟨r1, e_r1, h⟩ := bnd h
  refine g_callVi hX (pc := 4) (d := d + 2) hr0 [.int 1, .int 8] (c := 5) (ct_X5_takesNumber (d := d + 0) ho0 e_r1) ho0.1.1 ho0.1.2 (by decide) rfl co_X5_takesNumber ml_X5_190 im_X5_takesNumber sl_X5_takesNumber ini_X5 nm_X5_takesNumber (by decide) ⟨Nat.le_refl _, Nat.le_refl _⟩ (Nat.le_refl _) (Nat.le_of_ble_eq_true rfl) rfl dX5_holesLine_4 ?_
  refine g_if_ne hX (pc := 7) dX5_holesLine_7 (tgt := 12) (by decide) (fun c2 => ?_) (fun c2 => ?_)
  · replace h := ifP c2 h
    refine g_iconst hX (pc := 10) (v := 0) dX5_holesLine_10 (by decide) ?_
    replace h := Option.some.inj h
    obtain ⟨rfl, hT0⟩ := Prod.mk.inj h
    obtain ⟨rfl, rfl⟩ := Prod.mk.inj hT0
    exact g_zreturn hX (Or.inl rfl) (Nat.le_refl _) (Nat.le_refl _) dX5_holesLine_11
  · replace h := ifN c2 h
    refine g_aload_n hX (pc := 12) (i := 0) dX5_holesLine_12 rfl 0 rfl ?_
    refine gf5_15 hX (pc := 13) ho0 fl_X5_20 dX5_holesLine_13 ?_
    refine g_aload_n hX (pc := 16) (i := 0) dX5_holesLine_16 rfl 0 rfl ?_
    refine gf5_12 hX (pc := 17) ho0 fl_X5_174 dX5_holesLine_17 ?_
    refine g_aload_n hX (pc := 20) (i := 0) dX5_holesLine_20 rfl 0 rfl ?_
    refine gf5_11 hX (pc := 21) ho0 fl_X5_168 dX5_holesLine_21 ?_
    obtain ⟨I3, e_I3, h⟩ := bnd h
    refine g_iastoreE hX (pc := 24) (s5_15 ho0).1 (s5_15 ho0).2.1 (s5_15 ho0).2.2.1 e_I3 dX5_holesLine_24 ?_
    refine g_aload_n hX (pc := 25) (i := 0) dX5_holesLine_25 rfl 0 rfl ?_
    refine g_iconst hX (pc := 26) (v := 1) dX5_holesLine_26 (by decide) ?_
    obtain ⟨I4, e_I4, h⟩ := bnd h
    refine pf5_24 hX (pc := 27) ho0 fl_X5_194 dX5_holesLine_27 e_I4 (by decide) ?_
    refine g_iconst hX (pc := 30) (v := 1) dX5_holesLine_30 (by decide) ?_
    replace h := Option.some.inj h
    obtain ⟨rfl, hT0⟩ := Prod.mk.inj h
    obtain ⟨rfl, rfl⟩ := Prod.mk.inj hT0
    exact g_zreturn hX (Or.inr rfl) (Nat.le_refl _) (Nat.le_refl _) dX5_holesLine_31
noncomputable def f_X5_waveLine (o0 : Nat) (J : MJ) (I : MI) : Option (Int32 × MJ × MI) :=
  (f_X5_takesNumber o0 1 8 J I).bind fun r1 =>
  if r1.1 = 0 then
    some ((0, r1.2.1, r1.2.2))
  else
    (wr 2 r1.2.2 (o0 + 5) (r1.2.2 o0 12) (r1.2.2 o0 11)).bind fun I3 =>
    (f_X5_takesNumber o0 1 60 r1.2.1 I3).bind fun r4 =>
    if r4.1 = 0 then
      some ((0, r4.2.1, r4.2.2))
    else
      (wr 2 r4.2.2 (o0 + 6) (r4.2.2 o0 12) (r4.2.2 o0 11)).bind fun I6 =>
      (wf I6 o0 25 1).bind fun I7 =>
      some ((1, r4.2.1, I7))
theorem nm_X5_waveLine : yX5_waveLine.cls ≠ "java/lang/invoke/MethodHandle" ∧ yX5_waveLine.cls ≠ "java/lang/invoke/VarHandle" ∧ (parseMethodDescriptor yX5_waveLine.desc).map (fun d => d.parameters.length) = some 0 := by decide +kernel
set_option maxRecDepth 100000 in
set_option maxHeartbeats 4000000 in
theorem ct_X5_waveLine {E : Ev} {d : Nat} {z : Sh} {J : MJ} {I : MI} {o0 : Nat} {rr : Int32} {Jz : MJ} {Iz : MI} (ho0 : oX5 z o0) (h : f_X5_waveLine o0 J I = some ((rr, Jz, Iz))) : Ct E (d + 3) yX5_waveLine cX5_waveLine 1 (some .boolean) 0 0 [.ref o0] z J I (some (.int rr)) z Jz Iz := by
  unfold f_X5_waveLine at h
  refine Ct.of (own := RX5) (ls := [(0, .ref o0)]) (by decide) rfl (Nat.le_of_ble_eq_true rfl) rfl ?_
  intro X hr0 hnm hX
  refine g_aload_n hX (pc := 0) (i := 0) dX5_waveLine_0 rfl 0 rfl ?_
  refine g_iconst hX (pc := 1) (v := 1) dX5_waveLine_1 (by decide) ?_
  refine g_bipush hX (pc := 2) (v := 8) dX5_waveLine_2 (by decide) ?_
  obtain ⟨r1, e_r1, h⟩ := bnd h
  refine g_callVi hX (pc := 4) (d := d + 2) hr0 [.int 1, .int 8] (c := 5) (ct_X5_takesNumber (d := d + 0) ho0 e_r1) ho0.1.1 ho0.1.2 (by decide) rfl co_X5_takesNumber ml_X5_190 im_X5_takesNumber sl_X5_takesNumber ini_X5 nm_X5_takesNumber (by decide) ⟨Nat.le_refl _, Nat.le_refl _⟩ (Nat.le_refl _) (Nat.le_of_ble_eq_true rfl) rfl dX5_waveLine_4 ?_
  refine g_if_ne hX (pc := 7) dX5_waveLine_7 (tgt := 12) (by decide) (fun c2 => ?_) (fun c2 => ?_)
  · replace h := ifP c2 h
    refine g_iconst hX (pc := 10) (v := 0) dX5_waveLine_10 (by decide) ?_
    replace h := Option.some.inj h
    obtain ⟨rfl, hT0⟩ := Prod.mk.inj h
    obtain ⟨rfl, rfl⟩ := Prod.mk.inj hT0
    exact g_zreturn hX (Or.inl rfl) (Nat.le_refl _) (Nat.le_refl _) dX5_waveLine_11
  · replace h := ifN c2 h
    refine g_aload_n hX (pc := 12) (i := 0) dX5_waveLine_12 rfl 0 rfl ?_
    refine gf5_16 hX (pc := 13) ho0 fl_X5_23 dX5_waveLine_13 ?_
    refine g_aload_n hX (pc := 16) (i := 0) dX5_waveLine_16 rfl 0 rfl ?_
    refine gf5_12 hX (pc := 17) ho0 fl_X5_174 dX5_waveLine_17 ?_
    refine g_aload_n hX (pc := 20) (i := 0) dX5_waveLine_20 rfl 0 rfl ?_
    refine gf5_11 hX (pc := 21) ho0 fl_X5_168 dX5_waveLine_21 ?_
    obtain ⟨I3, e_I3, h⟩ := bnd h
    refine g_iastoreE hX (pc := 24) (s5_16 ho0).1 (s5_16 ho0).2.1 (s5_16 ho0).2.2.1 e_I3 dX5_waveLine_24 ?_
    refine g_aload_n hX (pc := 25) (i := 0) dX5_waveLine_25 rfl 0 rfl ?_
    refine g_iconst hX (pc := 26) (v := 1) dX5_waveLine_26 (by decide) ?_
    refine g_bipush hX (pc := 27) (v := 60) dX5_waveLine_27 (by decide) ?_
    obtain ⟨r4, e_r4, h⟩ := bnd h
    refine g_callVi hX (pc := 29) (d := d + 2) hr0 [.int 1, .int 60] (c := 5) (ct_X5_takesNumber (d := d + 0) ho0 e_r4) ho0.1.1 ho0.1.2 (by decide) rfl co_X5_takesNumber ml_X5_190 im_X5_takesNumber sl_X5_takesNumber ini_X5 nm_X5_takesNumber (by decide) ⟨Nat.le_refl _, Nat.le_refl _⟩ (Nat.le_refl _) (Nat.le_of_ble_eq_true rfl) rfl dX5_waveLine_29 ?_
    refine g_if_ne hX (pc := 32) dX5_waveLine_32 (tgt := 37) (by decide) (fun c5 => ?_) (fun c5 => ?_)
    · replace h := ifP c5 h
      refine g_iconst hX (pc := 35) (v := 0) dX5_waveLine_35 (by decide) ?_
      replace h := Option.some.inj h
      obtain ⟨rfl, hT0⟩ := Prod.mk.inj h
      obtain ⟨rfl, rfl⟩ := Prod.mk.inj hT0
      exact g_zreturn hX (Or.inl rfl) (Nat.le_refl _) (Nat.le_refl _) dX5_waveLine_36
    · replace h := ifN c5 h
      refine g_aload_n hX (pc := 37) (i := 0) dX5_waveLine_37 rfl 0 rfl ?_
      refine gf5_17 hX (pc := 38) ho0 fl_X5_26 dX5_waveLine_38 ?_
      refine g_aload_n hX (pc := 41) (i := 0) dX5_waveLine_41 rfl 0 rfl ?_
      refine gf5_12 hX (pc := 42) ho0 fl_X5_174 dX5_waveLine_42 ?_
      refine g_aload_n hX (pc := 45) (i := 0) dX5_waveLine_45 rfl 0 rfl ?_
      refine gf5_11 hX (pc := 46) ho0 fl_X5_168 dX5_waveLine_46 ?_
      obtain ⟨I6, e_I6, h⟩ := bnd h
      refine g_iastoreE hX (pc := 49) (s5_17 ho0).1 (s5_17 ho0).2.1 (s5_17 ho0).2.2.1 e_I6 dX5_waveLine_49 ?_
      refine g_aload_n hX (pc := 50) (i := 0) dX5_waveLine_50 rfl 0 rfl ?_
      refine g_iconst hX (pc := 51) (v := 1) dX5_waveLine_51 (by decide) ?_
      obtain ⟨I7, e_I7, h⟩ := bnd h
      refine pf5_25 hX (pc := 52) ho0 fl_X5_198 dX5_waveLine_52 e_I7 (by decide) ?_
      refine g_iconst hX (pc := 55) (v := 1) dX5_waveLine_55 (by decide) ?_
      replace h := Option.some.inj h
      obtain ⟨rfl, hT0⟩ := Prod.mk.inj h
      obtain ⟨rfl, rfl⟩ := Prod.mk.inj hT0
      exact g_zreturn hX (Or.inr rfl) (Nat.le_refl _) (Nat.le_refl _) dX5_waveLine_56
noncomputable def f_X5_itemLine (o0 : Nat) (J : MJ) (I : MI) : Option (Int32 × MJ × MI) :=
  (f_X5_newName o0 J I).bind fun r1 =>
  if r1.1 = 0 then
    some ((0, r1.2.1, r1.2.2))
  else
    (rd 2 (r1.2.2 (o0 + 2)) (r1.2.2 o0 12)).bind fun v3 =>
    (f_X5_takesNumber o0 0 99 r1.2.1 r1.2.2).bind fun r4 =>
    if r4.1 = 0 then
      some ((0, r4.2.1, r4.2.2))
    else
      (wr 20 r4.2.2 (o0 + 8) ((10 * (r1.2.2 o0 12)) + v3) (r4.2.2 o0 11)).bind fun I6 =>
      (f_X5_takesNumber o0 0 99 r4.2.1 I6).bind fun r7 =>
      if r7.1 = 0 then
        some ((0, r7.2.1, r7.2.2))
      else
        (wr 20 r7.2.2 (o0 + 9) ((10 * (r1.2.2 o0 12)) + v3) (r7.2.2 o0 11)).bind fun I9 =>
        (wr 20 r7.2.1 (o0 + 7) ((10 * (r1.2.2 o0 12)) + v3) (r1.2.1 o0 26)).bind fun J10 =>
        (rd 2 (I9 (o0 + 2)) (I9 o0 12)).bind fun v11 =>
        (wr 2 I9 (o0 + 2) (I9 o0 12) (v11 + 1)).bind fun I12 =>
        some ((1, J10, I12))
theorem nm_X5_itemLine : yX5_itemLine.cls ≠ "java/lang/invoke/MethodHandle" ∧ yX5_itemLine.cls ≠ "java/lang/invoke/VarHandle" ∧ (parseMethodDescriptor yX5_itemLine.desc).map (fun d => d.parameters.length) = some 0 := by decide +kernel
set_option maxRecDepth 100000 in
set_option maxHeartbeats 4000000 in
theorem ct_X5_itemLine {E : Ev} {d : Nat} {z : Sh} {J : MJ} {I : MI} {o0 : Nat} {rr : Int32} {Jz : MJ} {Iz : MI} (ho0 : oX5 z o0) (h : f_X5_itemLine o0 J I = some ((rr, Jz, Iz))) {ad av : Nat → Nat} (hE : EvOk E ad av) : Ct E (d + 8) yX5_itemLine cX5_itemLine 4 (some .boolean) 0 0 [.ref o0] z J I (some (.int rr)) z Jz Iz := by
  unfold f_X5_itemLine at h
  refine Ct.of (own := RX5) (ls := [(0, .ref o0)]) (by decide) rfl (Nat.le_of_ble_eq_true rfl) rfl ?_
  intro X hr0 hnm hX
  refine g_aload_n hX (pc := 0) (i := 0) dX5_itemLine_0 rfl 0 rfl ?_
  obtain ⟨r1, e_r1, h⟩ := bnd h
  refine g_callVi hX (pc := 1) (d := d + 7) hr0 [] (c := 5) (ct_X5_newName (d := d + 0) ho0 e_r1 hE) ho0.1.1 ho0.1.2 (by decide) rfl co_X5_newName ml_X5_201 im_X5_newName sl_X5_newName ini_X5 nm_X5_newName (by decide) ⟨Nat.le_refl _, Nat.le_refl _⟩ (Nat.le_refl _) (Nat.le_of_ble_eq_true rfl) rfl dX5_itemLine_1 ?_
  refine g_if_ne hX (pc := 4) dX5_itemLine_4 (tgt := 9) (by decide) (fun c2 => ?_) (fun c2 => ?_)
  · replace h := ifP c2 h
    refine g_iconst hX (pc := 7) (v := 0) dX5_itemLine_7 (by decide) ?_
    replace h := Option.some.inj h
    obtain ⟨rfl, hT0⟩ := Prod.mk.inj h
    obtain ⟨rfl, rfl⟩ := Prod.mk.inj hT0
    exact g_zreturn hX (Or.inl rfl) (Nat.le_refl _) (Nat.le_refl _) dX5_itemLine_8
  · replace h := ifN c2 h
    refine g_bipush hX (pc := 9) (v := 10) dX5_itemLine_9 (by decide) ?_
    refine g_aload_n hX (pc := 11) (i := 0) dX5_itemLine_11 rfl 0 rfl ?_
    refine gf5_12 hX (pc := 12) ho0 fl_X5_174 dX5_itemLine_12 ?_
    refine g_imul hX (pc := 15) dX5_itemLine_15 ?_
    refine g_aload_n hX (pc := 16) (i := 0) dX5_itemLine_16 rfl 0 rfl ?_
    refine gf5_13 hX (pc := 17) ho0 fl_X5_13 dX5_itemLine_17 ?_
    refine g_aload_n hX (pc := 20) (i := 0) dX5_itemLine_20 rfl 0 rfl ?_
    refine gf5_12 hX (pc := 21) ho0 fl_X5_174 dX5_itemLine_21 ?_
    obtain ⟨v3, e_v3, h⟩ := bnd h
    refine g_ialoadE hX (pc := 24) (s5_13 ho0).1 (s5_13 ho0).2.1 (s5_13 ho0).2.2.1 e_v3 dX5_itemLine_24 ?_
    refine g_iadd hX (pc := 25) dX5_itemLine_25 ?_
    refine g_istore_n hX (pc := 26) (i := 1) (ls' := [(0, .ref o0), (1, .int ((10 * (r1.2.2 o0 12)) + v3))]) [1, 0] dX5_itemLine_26 rfl (by decide) rfl ?_
    refine g_aload_n hX (pc := 27) (i := 0) dX5_itemLine_27 rfl 0 rfl ?_
    refine gf5_26 hX (pc := 28) ho0 fl_X5_187 dX5_itemLine_28 ?_
    refine g_lstore_n hX (pc := 31) (i := 2) (ls' := [(0, .ref o0), (1, .int ((10 * (r1.2.2 o0 12)) + v3)), (2, .long (r1.2.1 o0 26))]) [1, 2, 0] dX5_itemLine_31 rfl (by decide) rfl ?_
    refine g_aload_n hX (pc := 32) (i := 0) dX5_itemLine_32 rfl 0 rfl ?_
    refine g_iconst hX (pc := 33) (v := 0) dX5_itemLine_33 (by decide) ?_
    refine g_bipush hX (pc := 34) (v := 99) dX5_itemLine_34 (by decide) ?_
    obtain ⟨r4, e_r4, h⟩ := bnd h
    refine g_callVi hX (pc := 36) (d := d + 7) hr0 [.int 0, .int 99] (c := 5) (ct_X5_takesNumber (d := d + 5) ho0 e_r4) ho0.1.1 ho0.1.2 (by decide) rfl co_X5_takesNumber ml_X5_190 im_X5_takesNumber sl_X5_takesNumber ini_X5 nm_X5_takesNumber (by decide) ⟨Nat.le_refl _, Nat.le_refl _⟩ (Nat.le_refl _) (Nat.le_of_ble_eq_true rfl) rfl dX5_itemLine_36 ?_
    refine g_if_ne hX (pc := 39) dX5_itemLine_39 (tgt := 44) (by decide) (fun c5 => ?_) (fun c5 => ?_)
    · replace h := ifP c5 h
      refine g_iconst hX (pc := 42) (v := 0) dX5_itemLine_42 (by decide) ?_
      replace h := Option.some.inj h
      obtain ⟨rfl, hT0⟩ := Prod.mk.inj h
      obtain ⟨rfl, rfl⟩ := Prod.mk.inj hT0
      exact g_zreturn hX (Or.inl rfl) (Nat.le_refl _) (Nat.le_refl _) dX5_itemLine_43
    · replace h := ifN c5 h
      refine g_aload_n hX (pc := 44) (i := 0) dX5_itemLine_44 rfl 0 rfl ?_
      refine gf5_19 hX (pc := 45) ho0 fl_X5_33 dX5_itemLine_45 ?_
      refine g_iload_n hX (pc := 48) (i := 1) dX5_itemLine_48 rfl 1 rfl ?_
      refine g_aload_n hX (pc := 49) (i := 0) dX5_itemLine_49 rfl 0 rfl ?_
      refine gf5_11 hX (pc := 50) ho0 fl_X5_168 dX5_itemLine_50 ?_
      obtain ⟨I6, e_I6, h⟩ := bnd h
      refine g_iastoreE hX (pc := 53) (s5_19 ho0).1 (s5_19 ho0).2.1 (s5_19 ho0).2.2.1 e_I6 dX5_itemLine_53 ?_
      refine g_aload_n hX (pc := 54) (i := 0) dX5_itemLine_54 rfl 0 rfl ?_
      refine g_iconst hX (pc := 55) (v := 0) dX5_itemLine_55 (by decide) ?_
      refine g_bipush hX (pc := 56) (v := 99) dX5_itemLine_56 (by decide) ?_
      obtain ⟨r7, e_r7, h⟩ := bnd h
      refine g_callVi hX (pc := 58) (d := d + 7) hr0 [.int 0, .int 99] (c := 5) (ct_X5_takesNumber (d := d + 5) ho0 e_r7) ho0.1.1 ho0.1.2 (by decide) rfl co_X5_takesNumber ml_X5_190 im_X5_takesNumber sl_X5_takesNumber ini_X5 nm_X5_takesNumber (by decide) ⟨Nat.le_refl _, Nat.le_refl _⟩ (Nat.le_refl _) (Nat.le_of_ble_eq_true rfl) rfl dX5_itemLine_58 ?_
      refine g_if_ne hX (pc := 61) dX5_itemLine_61 (tgt := 66) (by decide) (fun c8 => ?_) (fun c8 => ?_)
      · replace h := ifP c8 h
        refine g_iconst hX (pc := 64) (v := 0) dX5_itemLine_64 (by decide) ?_
        replace h := Option.some.inj h
        obtain ⟨rfl, hT0⟩ := Prod.mk.inj h
        obtain ⟨rfl, rfl⟩ := Prod.mk.inj hT0
        exact g_zreturn hX (Or.inl rfl) (Nat.le_refl _) (Nat.le_refl _) dX5_itemLine_65
      · replace h := ifN c8 h
        refine g_aload_n hX (pc := 66) (i := 0) dX5_itemLine_66 rfl 0 rfl ?_
        refine gf5_20 hX (pc := 67) ho0 fl_X5_36 dX5_itemLine_67 ?_
        refine g_iload_n hX (pc := 70) (i := 1) dX5_itemLine_70 rfl 1 rfl ?_
        refine g_aload_n hX (pc := 71) (i := 0) dX5_itemLine_71 rfl 0 rfl ?_
        refine gf5_11 hX (pc := 72) ho0 fl_X5_168 dX5_itemLine_72 ?_
        obtain ⟨I9, e_I9, h⟩ := bnd h
        refine g_iastoreE hX (pc := 75) (s5_20 ho0).1 (s5_20 ho0).2.1 (s5_20 ho0).2.2.1 e_I9 dX5_itemLine_75 ?_
        refine g_aload_n hX (pc := 76) (i := 0) dX5_itemLine_76 rfl 0 rfl ?_
        refine gf5_18 hX (pc := 77) ho0 fl_X5_29 dX5_itemLine_77 ?_
        refine g_iload_n hX (pc := 80) (i := 1) dX5_itemLine_80 rfl 1 rfl ?_
        refine g_lload_n hX (pc := 81) (i := 2) dX5_itemLine_81 rfl 2 rfl ?_
        obtain ⟨J10, e_J10, h⟩ := bnd h
        refine g_lastoreE hX (pc := 82) (s5_18 ho0).1 (s5_18 ho0).2.1 (s5_18 ho0).2.2.1 e_J10 dX5_itemLine_82 ?_
        refine g_aload_n hX (pc := 83) (i := 0) dX5_itemLine_83 rfl 0 rfl ?_
        refine gf5_13 hX (pc := 84) ho0 fl_X5_13 dX5_itemLine_84 ?_
        refine g_aload_n hX (pc := 87) (i := 0) dX5_itemLine_87 rfl 0 rfl ?_
        refine gf5_12 hX (pc := 88) ho0 fl_X5_174 dX5_itemLine_88 ?_
        refine g_dup2 hX (pc := 91) dX5_itemLine_91 rfl rfl ?_
        obtain ⟨v11, e_v11, h⟩ := bnd h
        refine g_ialoadE hX (pc := 92) (s5_13 ho0).1 (s5_13 ho0).2.1 (s5_13 ho0).2.2.1 e_v11 dX5_itemLine_92 ?_
        refine g_iconst hX (pc := 93) (v := 1) dX5_itemLine_93 (by decide) ?_
        refine g_iadd hX (pc := 94) dX5_itemLine_94 ?_
        obtain ⟨I12, e_I12, h⟩ := bnd h
        refine g_iastoreE hX (pc := 95) (s5_13 ho0).1 (s5_13 ho0).2.1 (s5_13 ho0).2.2.1 e_I12 dX5_itemLine_95 ?_
        refine g_iconst hX (pc := 96) (v := 1) dX5_itemLine_96 (by decide) ?_
        replace h := Option.some.inj h
        obtain ⟨rfl, hT0⟩ := Prod.mk.inj h
        obtain ⟨rfl, rfl⟩ := Prod.mk.inj hT0
        exact g_zreturn hX (Or.inr rfl) (Nat.le_refl _) (Nat.le_refl _) dX5_itemLine_97
noncomputable def b_X5_orderLine_57 (o0 : Nat) (r1 : Int32 × MJ × MI) (v3 : Int32) (s : Int32 × MJ × MI) : Option ((Int32 × MJ × MI) ⊕ ((Int32 × MJ × MI) ⊕ (Int32 × Int32 × MJ × MI))) :=
  (f_X5_isName o0 s.2.1 s.2.2).bind fun r11 =>
  (f_X5_must o0 r11 1 s.2.1 s.2.2).bind fun r12 =>
  if r12.1 = 0 then
    some (.inr (.inl ((0, s.2.1, r12.2))))
  else
    (f_X5_itemNamed o0 s.2.1 r12.2).bind fun r14 =>
    (if r14 < 0 then
      some 1
    else
      (rd 320 (r12.2 (o0 + 12)) ((10 * ((16 * (r1.2.2 o0 12)) + v3)) + r14)).bind fun v17 =>
      if v17 = 0 then
        some 1
      else
        some 0).bind fun (p19 : Int32) =>
    (f_X5_must o0 p19 2 s.2.1 r12.2).bind fun r20 =>
    if r20.1 = 0 then
      some (.inr (.inl ((0, s.2.1, r20.2))))
    else
      (if r14 < 0 then
        some 0
      else
        some 1).bind fun (p24 : Int32) =>
      (f_X5_must o0 p24 3 s.2.1 r20.2).bind fun r25 =>
      if r25.1 = 0 then
        some (.inr (.inl ((0, s.2.1, r25.2))))
      else
        (if s.1 < 6 then
          some 1
        else
          some 0).bind fun (p29 : Int32) =>
        (f_X5_must o0 p29 5 s.2.1 r25.2).bind fun r30 =>
        if r30.1 = 0 then
          some (.inr (.inl ((0, s.2.1, r30.2))))
        else
          (f_X5_steps o0 s.2.1 r30.2).bind fun r32 =>
          (f_X5_takesNumber o0 1 9 r32.1 r32.2).bind fun r33 =>
          if r33.1 = 0 then
            some (.inr (.inl ((0, r33.2.1, r33.2.2))))
          else
            (wr 320 r33.2.2 (o0 + 12) ((10 * ((16 * (r1.2.2 o0 12)) + v3)) + r14) (r33.2.2 o0 11)).bind fun I35 =>
            if (I35 o0 6) = 1 then
              some (.inl ((s.1 + 1, r33.2.1, I35)))
            else
              some (.inr (.inr ((s.1 + 1, r14, r33.2.1, I35))))
noncomputable def f_X5_orderLine (o0 : Nat) (J : MJ) (I : MI) : Option (Int32 × MJ × MI) :=
  (f_X5_newName o0 J I).bind fun r1 =>
  if r1.1 = 0 then
    some ((0, r1.2.1, r1.2.2))
  else
    (rd 2 (r1.2.2 (o0 + 3)) (r1.2.2 o0 12)).bind fun v3 =>
    (f_X5_takesNumber o0 0 99 r1.2.1 r1.2.2).bind fun r4 =>
    if r4.1 = 0 then
      some ((0, r4.2.1, r4.2.2))
    else
      (wr 32 r4.2.2 (o0 + 11) ((16 * (r1.2.2 o0 12)) + v3) (r4.2.2 o0 11)).bind fun I6 =>
      (lp (b_X5_orderLine_57 o0 r1 v3) ((0, r4.2.1, I6))).bind fun p37 =>
      Sum.elim (fun rr => some rr) (fun q38 =>
        (wr 32 q38.2.2.1 (o0 + 10) ((16 * (r1.2.2 o0 12)) + v3) (r1.2.1 o0 26)).bind fun J39 =>
        (rd 2 (q38.2.2.2 (o0 + 3)) (q38.2.2.2 o0 12)).bind fun v40 =>
        (wr 2 q38.2.2.2 (o0 + 3) (q38.2.2.2 o0 12) (v40 + 1)).bind fun I41 =>
        some ((1, J39, I41))) p37
theorem nm_X5_orderLine : yX5_orderLine.cls ≠ "java/lang/invoke/MethodHandle" ∧ yX5_orderLine.cls ≠ "java/lang/invoke/VarHandle" ∧ (parseMethodDescriptor yX5_orderLine.desc).map (fun d => d.parameters.length) = some 0 := by decide +kernel
set_option maxRecDepth 100000 in
set_option maxHeartbeats 4000000 in
theorem ct_X5_orderLine {E : Ev} {d : Nat} {z : Sh} {J : MJ} {I : MI} {o0 : Nat} {rr : Int32} {Jz : MJ} {Iz : MI} (ho0 : oX5 z o0) (h : f_X5_orderLine o0 J I = some ((rr, Jz, Iz))) {ad av : Nat → Nat} (hE : EvOk E ad av) : Ct E (d + 8) yX5_orderLine cX5_orderLine 6 (some .boolean) 0 0 [.ref o0] z J I (some (.int rr)) z Jz Iz := by
  unfold f_X5_orderLine at h
  refine Ct.of (own := RX5) (ls := [(0, .ref o0)]) (by decide) rfl (Nat.le_of_ble_eq_true rfl) rfl ?_
  intro X hr0 hnm hX
  refine g_aload_n hX (pc := 0) (i := 0) dX5_orderLine_0 rfl 0 rfl ?_
  obtain ⟨r1, e_r1, h⟩ := bnd h
  refine g_callVi hX (pc := 1) (d := d + 7) hr0 [] (c := 5) (ct_X5_newName (d := d + 0) ho0 e_r1 hE) ho0.1.1 ho0.1.2 (by decide) rfl co_X5_newName ml_X5_201 im_X5_newName sl_X5_newName ini_X5 nm_X5_newName (by decide) ⟨Nat.le_refl _, Nat.le_refl _⟩ (Nat.le_refl _) (Nat.le_of_ble_eq_true rfl) rfl dX5_orderLine_1 ?_
  refine g_if_ne hX (pc := 4) dX5_orderLine_4 (tgt := 9) (by decide) (fun c2 => ?_) (fun c2 => ?_)
  · replace h := ifP c2 h
    refine g_iconst hX (pc := 7) (v := 0) dX5_orderLine_7 (by decide) ?_
    replace h := Option.some.inj h
    obtain ⟨rfl, hT0⟩ := Prod.mk.inj h
    obtain ⟨rfl, rfl⟩ := Prod.mk.inj hT0
    exact g_zreturn hX (Or.inl rfl) (Nat.le_refl _) (Nat.le_refl _) dX5_orderLine_8
  · replace h := ifN c2 h
    refine g_bipush hX (pc := 9) (v := 16) dX5_orderLine_9 (by decide) ?_
    refine g_aload_n hX (pc := 11) (i := 0) dX5_orderLine_11 rfl 0 rfl ?_
    refine gf5_12 hX (pc := 12) ho0 fl_X5_174 dX5_orderLine_12 ?_
    refine g_imul hX (pc := 15) dX5_orderLine_15 ?_
    refine g_aload_n hX (pc := 16) (i := 0) dX5_orderLine_16 rfl 0 rfl ?_
    refine gf5_14 hX (pc := 17) ho0 fl_X5_17 dX5_orderLine_17 ?_
    refine g_aload_n hX (pc := 20) (i := 0) dX5_orderLine_20 rfl 0 rfl ?_
    refine gf5_12 hX (pc := 21) ho0 fl_X5_174 dX5_orderLine_21 ?_
    obtain ⟨v3, e_v3, h⟩ := bnd h
    refine g_ialoadE hX (pc := 24) (s5_14 ho0).1 (s5_14 ho0).2.1 (s5_14 ho0).2.2.1 e_v3 dX5_orderLine_24 ?_
    refine g_iadd hX (pc := 25) dX5_orderLine_25 ?_
    refine g_istore_n hX (pc := 26) (i := 1) (ls' := [(0, .ref o0), (1, .int ((16 * (r1.2.2 o0 12)) + v3))]) [1, 0] dX5_orderLine_26 rfl (by decide) rfl ?_
    refine g_aload_n hX (pc := 27) (i := 0) dX5_orderLine_27 rfl 0 rfl ?_
    refine gf5_26 hX (pc := 28) ho0 fl_X5_187 dX5_orderLine_28 ?_
    refine g_lstore_n hX (pc := 31) (i := 2) (ls' := [(0, .ref o0), (1, .int ((16 * (r1.2.2 o0 12)) + v3)), (2, .long (r1.2.1 o0 26))]) [1, 2, 0] dX5_orderLine_31 rfl (by decide) rfl ?_
    refine g_aload_n hX (pc := 32) (i := 0) dX5_orderLine_32 rfl 0 rfl ?_
    refine g_iconst hX (pc := 33) (v := 0) dX5_orderLine_33 (by decide) ?_
    refine g_bipush hX (pc := 34) (v := 99) dX5_orderLine_34 (by decide) ?_
    obtain ⟨r4, e_r4, h⟩ := bnd h
    refine g_callVi hX (pc := 36) (d := d + 7) hr0 [.int 0, .int 99] (c := 5) (ct_X5_takesNumber (d := d + 5) ho0 e_r4) ho0.1.1 ho0.1.2 (by decide) rfl co_X5_takesNumber ml_X5_190 im_X5_takesNumber sl_X5_takesNumber ini_X5 nm_X5_takesNumber (by decide) ⟨Nat.le_refl _, Nat.le_refl _⟩ (Nat.le_refl _) (Nat.le_of_ble_eq_true rfl) rfl dX5_orderLine_36 ?_
    refine g_if_ne hX (pc := 39) dX5_orderLine_39 (tgt := 44) (by decide) (fun c5 => ?_) (fun c5 => ?_)
    · replace h := ifP c5 h
      refine g_iconst hX (pc := 42) (v := 0) dX5_orderLine_42 (by decide) ?_
      replace h := Option.some.inj h
      obtain ⟨rfl, hT0⟩ := Prod.mk.inj h
      obtain ⟨rfl, rfl⟩ := Prod.mk.inj hT0
      exact g_zreturn hX (Or.inl rfl) (Nat.le_refl _) (Nat.le_refl _) dX5_orderLine_43
    · replace h := ifN c5 h
      refine g_aload_n hX (pc := 44) (i := 0) dX5_orderLine_44 rfl 0 rfl ?_
      refine gf5_22 hX (pc := 45) ho0 fl_X5_42 dX5_orderLine_45 ?_
      refine g_iload_n hX (pc := 48) (i := 1) dX5_orderLine_48 rfl 1 rfl ?_
      refine g_aload_n hX (pc := 49) (i := 0) dX5_orderLine_49 rfl 0 rfl ?_
      refine gf5_11 hX (pc := 50) ho0 fl_X5_168 dX5_orderLine_50 ?_
      obtain ⟨I6, e_I6, h⟩ := bnd h
      refine g_iastoreE hX (pc := 53) (s5_22 ho0).1 (s5_22 ho0).2.1 (s5_22 ho0).2.2.1 e_I6 dX5_orderLine_53 ?_
      refine g_iconst hX (pc := 54) (v := 0) dX5_orderLine_54 (by decide) ?_
      refine g_istore hX (pc := 55) (ls' := [(0, .ref o0), (1, .int ((16 * (r1.2.2 o0 12)) + v3)), (2, .long (r1.2.1 o0 26)), (4, .int 0)]) [1, 2, 3, 0] dX5_orderLine_55 (by decide) rfl ?_
      obtain ⟨p37, hpl10, h⟩ := bnd h
      have KRl10 : ∀ rl10 : Int32 × MJ × MI, Sum.inl rl10 = p37 → some rl10 = some (rr, Jz, Iz) := by intro rl10 hrl10; subst hrl10; exact h
      have Kl10 : ∀ q38 : Int32 × Int32 × MJ × MI, Sum.inr q38 = p37 → GW E X (QX E X 0 0 (some (.int rr)) z Jz Iz) 6 193 [(0, .ref o0), (1, .int ((16 * (r1.2.2 o0 12)) + v3)), (2, .long (r1.2.1 o0 26)), (4, .int q38.1), (5, .int q38.2.1)] [] z q38.2.2.1 q38.2.2.2 0 0 := by
        intro q38 hql10
        subst hql10
        refine g_aload_n hX (pc := 193) (i := 0) dX5_orderLine_193 rfl 0 rfl ?_
        refine gf5_21 hX (pc := 194) ho0 fl_X5_39 dX5_orderLine_194 ?_
        refine g_iload_n hX (pc := 197) (i := 1) dX5_orderLine_197 rfl 1 rfl ?_
        refine g_lload_n hX (pc := 198) (i := 2) dX5_orderLine_198 rfl 2 rfl ?_
        obtain ⟨J39, e_J39, h⟩ := bnd h
        refine g_lastoreE hX (pc := 199) (s5_21 ho0).1 (s5_21 ho0).2.1 (s5_21 ho0).2.2.1 e_J39 dX5_orderLine_199 ?_
        refine g_aload_n hX (pc := 200) (i := 0) dX5_orderLine_200 rfl 0 rfl ?_
        refine gf5_14 hX (pc := 201) ho0 fl_X5_17 dX5_orderLine_201 ?_
        refine g_aload_n hX (pc := 204) (i := 0) dX5_orderLine_204 rfl 0 rfl ?_
        refine gf5_12 hX (pc := 205) ho0 fl_X5_174 dX5_orderLine_205 ?_
        refine g_dup2 hX (pc := 208) dX5_orderLine_208 rfl rfl ?_
        obtain ⟨v40, e_v40, h⟩ := bnd h
        refine g_ialoadE hX (pc := 209) (s5_14 ho0).1 (s5_14 ho0).2.1 (s5_14 ho0).2.2.1 e_v40 dX5_orderLine_209 ?_
        refine g_iconst hX (pc := 210) (v := 1) dX5_orderLine_210 (by decide) ?_
        refine g_iadd hX (pc := 211) dX5_orderLine_211 ?_
        obtain ⟨I41, e_I41, h⟩ := bnd h
        refine g_iastoreE hX (pc := 212) (s5_14 ho0).1 (s5_14 ho0).2.1 (s5_14 ho0).2.2.1 e_I41 dX5_orderLine_212 ?_
        refine g_iconst hX (pc := 213) (v := 1) dX5_orderLine_213 (by decide) ?_
        replace h := Option.some.inj h
        obtain ⟨rfl, hT0⟩ := Prod.mk.inj h
        obtain ⟨rfl, rfl⟩ := Prod.mk.inj hT0
        exact g_zreturn hX (Or.inr rfl) (Nat.le_refl _) (Nat.le_refl _) dX5_orderLine_214
      obtain ⟨kl10, hkl10⟩ := lp_ex hpl10
      clear hpl10 h
      have Ll10 : ∀ k : Nat, ∀ (s7 : Int32) (J8 : MJ) (I9 : MI), lpN k (b_X5_orderLine_57 o0 r1 v3) ((s7, J8, I9)) = some p37 → GW E X (QX E X 0 0 (some (.int rr)) z Jz Iz) 6 57 [(0, .ref o0), (1, .int ((16 * (r1.2.2 o0 12)) + v3)), (2, .long (r1.2.1 o0 26)), (4, .int s7)] [] z J8 I9 0 0 := by
        intro k
        induction k with
        | zero => intro s7 J8 I9 h; cases h
        | succ k ihl10 =>
          intro s7 J8 I9 h
          obtain ⟨wl10, h, hwl10⟩ := lpN_s h
          unfold b_X5_orderLine_57 at h
          try dsimp only at h
          refine g_aload_n hX (pc := 57) (i := 0) dX5_orderLine_57 rfl 0 rfl ?_
          refine g_aload_n hX (pc := 58) (i := 0) dX5_orderLine_58 rfl 0 rfl ?_
          obtain ⟨r11, e_r11, h⟩ := bnd h
          refine g_callVi hX (pc := 59) (d := d + 7) hr0 [] (c := 5) (ct_X5_isName (d := d + 1) ho0 e_r11 hE) ho0.1.1 ho0.1.2 (by decide) rfl co_X5_isName ml_X5_177 im_X5_isName sl_X5_isName ini_X5 nm_X5_isName (by decide) ⟨Nat.le_refl _, Nat.le_refl _⟩ (Nat.le_refl _) (Nat.le_of_ble_eq_true rfl) rfl dX5_orderLine_59 ?_
          refine g_iconst hX (pc := 62) (v := 1) dX5_orderLine_62 (by decide) ?_
          obtain ⟨r12, e_r12, h⟩ := bnd h
          refine g_callVi hX (pc := 63) (d := d + 7) hr0 [.int r11, .int 1] (c := 5) (ct_X5_must (d := d + 7) ho0 e_r12) ho0.1.1 ho0.1.2 (by decide) rfl co_X5_must ml_X5_164 im_X5_must sl_X5_must ini_X5 nm_X5_must (by decide) ⟨Nat.le_refl _, Nat.le_refl _⟩ (Nat.le_refl _) (Nat.le_of_ble_eq_true rfl) rfl dX5_orderLine_63 ?_
          refine g_if_ne hX (pc := 66) dX5_orderLine_66 (tgt := 71) (by decide) (fun c13 => ?_) (fun c13 => ?_)
          · replace h := ifP c13 h
            refine g_iconst hX (pc := 69) (v := 0) dX5_orderLine_69 (by decide) ?_
            obtain rfl := Option.some.inj h
            replace h := KRl10 _ hwl10
            replace h := Option.some.inj h
            obtain ⟨rfl, hT0⟩ := Prod.mk.inj h
            obtain ⟨rfl, rfl⟩ := Prod.mk.inj hT0
            exact g_zreturn hX (Or.inl rfl) (Nat.le_refl _) (Nat.le_refl _) dX5_orderLine_70
          · replace h := ifN c13 h
            refine g_aload_n hX (pc := 71) (i := 0) dX5_orderLine_71 rfl 0 rfl ?_
            obtain ⟨r14, e_r14, h⟩ := bnd h
            refine g_callVi hX (pc := 72) (d := d + 7) hr0 [] (c := 5) (ct_X5_itemNamed (d := d + 7) ho0 e_r14) ho0.1.1 ho0.1.2 (by decide) rfl co_X5_itemNamed ml_X5_181 im_X5_itemNamed sl_X5_itemNamed ini_X5 nm_X5_itemNamed (by decide) ⟨Nat.le_refl _, Nat.le_refl _⟩ (Nat.le_refl _) (Nat.le_of_ble_eq_true rfl) rfl dX5_orderLine_72 ?_
            refine g_istore hX (pc := 75) (ls' := [(0, .ref o0), (1, .int ((16 * (r1.2.2 o0 12)) + v3)), (2, .long (r1.2.1 o0 26)), (4, .int s7), (5, .int r14)]) [1, 2, 3, 4, 0] dX5_orderLine_75 (by decide) rfl ?_
            refine g_aload_n hX (pc := 77) (i := 0) dX5_orderLine_77 rfl 0 rfl ?_
            refine g_iload hX (pc := 78) dX5_orderLine_78 4 rfl ?_
            obtain ⟨p19, hpj16, h⟩ := bnd h
            have Kj16 : ∀ qj16 : Int32, qj16 = p19 → GW E X (QX E X 0 0 (some (.int rr)) z Jz Iz) 6 103 [(0, .ref o0), (1, .int ((16 * (r1.2.2 o0 12)) + v3)), (2, .long (r1.2.1 o0 26)), (4, .int s7), (5, .int r14)] [.int qj16, .ref o0] z J8 r12.2 0 0 := by
              intro qj16 hqj16
              subst hqj16
              refine g_iconst hX (pc := 103) (v := 2) dX5_orderLine_103 (by decide) ?_
              obtain ⟨r20, e_r20, h⟩ := bnd h
              refine g_callVi hX (pc := 104) (d := d + 7) hr0 [.int qj16, .int 2] (c := 5) (ct_X5_must (d := d + 7) ho0 e_r20) ho0.1.1 ho0.1.2 (by decide) rfl co_X5_must ml_X5_164 im_X5_must sl_X5_must ini_X5 nm_X5_must (by decide) ⟨Nat.le_refl _, Nat.le_refl _⟩ (Nat.le_refl _) (Nat.le_of_ble_eq_true rfl) rfl dX5_orderLine_104 ?_
              refine g_if_eq hX (pc := 107) dX5_orderLine_107 (tgt := 148) (by decide) (fun c21 => ?_) (fun c21 => ?_)
              · replace h := ifP c21 h
                refine g_iconst hX (pc := 148) (v := 0) dX5_orderLine_148 (by decide) ?_
                obtain rfl := Option.some.inj h
                replace h := KRl10 _ hwl10
                replace h := Option.some.inj h
                obtain ⟨rfl, hT0⟩ := Prod.mk.inj h
                obtain ⟨rfl, rfl⟩ := Prod.mk.inj hT0
                exact g_zreturn hX (Or.inl rfl) (Nat.le_refl _) (Nat.le_refl _) dX5_orderLine_149
              · replace h := ifN c21 h
                refine g_aload_n hX (pc := 110) (i := 0) dX5_orderLine_110 rfl 0 rfl ?_
                refine g_iload hX (pc := 111) dX5_orderLine_111 4 rfl ?_
                obtain ⟨p24, hpj23, h⟩ := bnd h
                have Kj23 : ∀ qj23 : Int32, qj23 = p24 → GW E X (QX E X 0 0 (some (.int rr)) z Jz Iz) 6 121 [(0, .ref o0), (1, .int ((16 * (r1.2.2 o0 12)) + v3)), (2, .long (r1.2.1 o0 26)), (4, .int s7), (5, .int r14)] [.int qj23, .ref o0] z J8 r20.2 0 0 := by
                  intro qj23 hqj23
                  subst hqj23
                  refine g_iconst hX (pc := 121) (v := 3) dX5_orderLine_121 (by decide) ?_
                  obtain ⟨r25, e_r25, h⟩ := bnd h
                  refine g_callVi hX (pc := 122) (d := d + 7) hr0 [.int qj23, .int 3] (c := 5) (ct_X5_must (d := d + 7) ho0 e_r25) ho0.1.1 ho0.1.2 (by decide) rfl co_X5_must ml_X5_164 im_X5_must sl_X5_must ini_X5 nm_X5_must (by decide) ⟨Nat.le_refl _, Nat.le_refl _⟩ (Nat.le_refl _) (Nat.le_of_ble_eq_true rfl) rfl dX5_orderLine_122 ?_
                  refine g_if_eq hX (pc := 125) dX5_orderLine_125 (tgt := 148) (by decide) (fun c26 => ?_) (fun c26 => ?_)
                  · replace h := ifP c26 h
                    refine g_iconst hX (pc := 148) (v := 0) dX5_orderLine_148 (by decide) ?_
                    obtain rfl := Option.some.inj h
                    replace h := KRl10 _ hwl10
                    replace h := Option.some.inj h
                    obtain ⟨rfl, hT0⟩ := Prod.mk.inj h
                    obtain ⟨rfl, rfl⟩ := Prod.mk.inj hT0
                    exact g_zreturn hX (Or.inl rfl) (Nat.le_refl _) (Nat.le_refl _) dX5_orderLine_149
                  · replace h := ifN c26 h
                    refine g_aload_n hX (pc := 128) (i := 0) dX5_orderLine_128 rfl 0 rfl ?_
                    refine g_iload hX (pc := 129) dX5_orderLine_129 3 rfl ?_
                    refine g_bipush hX (pc := 131) (v := 6) dX5_orderLine_131 (by decide) ?_
                    obtain ⟨p29, hpj28, h⟩ := bnd h
                    have Kj28 : ∀ qj28 : Int32, qj28 = p29 → GW E X (QX E X 0 0 (some (.int rr)) z Jz Iz) 6 141 [(0, .ref o0), (1, .int ((16 * (r1.2.2 o0 12)) + v3)), (2, .long (r1.2.1 o0 26)), (4, .int s7), (5, .int r14)] [.int qj28, .ref o0] z J8 r25.2 0 0 := by
                      intro qj28 hqj28
                      subst hqj28
                      refine g_iconst hX (pc := 141) (v := 5) dX5_orderLine_141 (by decide) ?_
                      obtain ⟨r30, e_r30, h⟩ := bnd h
                      refine g_callVi hX (pc := 142) (d := d + 7) hr0 [.int qj28, .int 5] (c := 5) (ct_X5_must (d := d + 7) ho0 e_r30) ho0.1.1 ho0.1.2 (by decide) rfl co_X5_must ml_X5_164 im_X5_must sl_X5_must ini_X5 nm_X5_must (by decide) ⟨Nat.le_refl _, Nat.le_refl _⟩ (Nat.le_refl _) (Nat.le_of_ble_eq_true rfl) rfl dX5_orderLine_142 ?_
                      refine g_if_ne hX (pc := 145) dX5_orderLine_145 (tgt := 150) (by decide) (fun c31 => ?_) (fun c31 => ?_)
                      · replace h := ifP c31 h
                        refine g_iconst hX (pc := 148) (v := 0) dX5_orderLine_148 (by decide) ?_
                        obtain rfl := Option.some.inj h
                        replace h := KRl10 _ hwl10
                        replace h := Option.some.inj h
                        obtain ⟨rfl, hT0⟩ := Prod.mk.inj h
                        obtain ⟨rfl, rfl⟩ := Prod.mk.inj hT0
                        exact g_zreturn hX (Or.inl rfl) (Nat.le_refl _) (Nat.le_refl _) dX5_orderLine_149
                      · replace h := ifN c31 h
                        refine g_aload_n hX (pc := 150) (i := 0) dX5_orderLine_150 rfl 0 rfl ?_
                        obtain ⟨r32, e_r32, h⟩ := bnd h
                        refine g_callVv hX (pc := 151) (d := d + 7) hr0 [] (c := 5) (ct_X5_steps (d := d + 6) ho0 e_r32) ho0.1.1 ho0.1.2 (by decide) rfl co_X5_steps ml_X5_171 im_X5_steps sl_X5_steps ini_X5 nm_X5_steps (by decide) ⟨Nat.le_refl _, Nat.le_refl _⟩ (Nat.le_refl _) (Nat.le_of_ble_eq_true rfl) rfl dX5_orderLine_151 ?_
                        refine g_aload_n hX (pc := 154) (i := 0) dX5_orderLine_154 rfl 0 rfl ?_
                        refine g_iconst hX (pc := 155) (v := 1) dX5_orderLine_155 (by decide) ?_
                        refine g_bipush hX (pc := 156) (v := 9) dX5_orderLine_156 (by decide) ?_
                        obtain ⟨r33, e_r33, h⟩ := bnd h
                        refine g_callVi hX (pc := 158) (d := d + 7) hr0 [.int 1, .int 9] (c := 5) (ct_X5_takesNumber (d := d + 5) ho0 e_r33) ho0.1.1 ho0.1.2 (by decide) rfl co_X5_takesNumber ml_X5_190 im_X5_takesNumber sl_X5_takesNumber ini_X5 nm_X5_takesNumber (by decide) ⟨Nat.le_refl _, Nat.le_refl _⟩ (Nat.le_refl _) (Nat.le_of_ble_eq_true rfl) rfl dX5_orderLine_158 ?_
                        refine g_if_ne hX (pc := 161) dX5_orderLine_161 (tgt := 166) (by decide) (fun c34 => ?_) (fun c34 => ?_)
                        · replace h := ifP c34 h
                          refine g_iconst hX (pc := 164) (v := 0) dX5_orderLine_164 (by decide) ?_
                          obtain rfl := Option.some.inj h
                          replace h := KRl10 _ hwl10
                          replace h := Option.some.inj h
                          obtain ⟨rfl, hT0⟩ := Prod.mk.inj h
                          obtain ⟨rfl, rfl⟩ := Prod.mk.inj hT0
                          exact g_zreturn hX (Or.inl rfl) (Nat.le_refl _) (Nat.le_refl _) dX5_orderLine_165
                        · replace h := ifN c34 h
                          refine g_aload_n hX (pc := 166) (i := 0) dX5_orderLine_166 rfl 0 rfl ?_
                          refine gf5_23 hX (pc := 167) ho0 fl_X5_45 dX5_orderLine_167 ?_
                          refine g_bipush hX (pc := 170) (v := 10) dX5_orderLine_170 (by decide) ?_
                          refine g_iload_n hX (pc := 172) (i := 1) dX5_orderLine_172 rfl 1 rfl ?_
                          refine g_imul hX (pc := 173) dX5_orderLine_173 ?_
                          refine g_iload hX (pc := 174) dX5_orderLine_174 4 rfl ?_
                          refine g_iadd hX (pc := 176) dX5_orderLine_176 ?_
                          refine g_aload_n hX (pc := 177) (i := 0) dX5_orderLine_177 rfl 0 rfl ?_
                          refine gf5_11 hX (pc := 178) ho0 fl_X5_168 dX5_orderLine_178 ?_
                          obtain ⟨I35, e_I35, h⟩ := bnd h
                          refine g_iastoreE hX (pc := 181) (s5_23 ho0).1 (s5_23 ho0).2.1 (s5_23 ho0).2.2.1 e_I35 dX5_orderLine_181 ?_
                          refine g_iinc hX (pc := 182) (i := 4) (v := s7 + 1) (ls' := [(0, .ref o0), (1, .int ((16 * (r1.2.2 o0 12)) + v3)), (2, .long (r1.2.1 o0 26)), (4, .int (s7 + 1)), (5, .int r14)]) 3 [1, 2, 3, 0, 4] dX5_orderLine_182 rfl (by rfl) (by decide) rfl ?_
                          refine g_aload_n hX (pc := 185) (i := 0) dX5_orderLine_185 rfl 0 rfl ?_
                          refine gf5_6 hX (pc := 186) ho0 fl_X5_109 dX5_orderLine_186 ?_
                          refine g_iconst hX (pc := 189) (v := 1) dX5_orderLine_189 (by decide) ?_
                          refine g_icmp_eq hX (pc := 190) dX5_orderLine_190 (tgt := 57) (by decide) (fun c36 => ?_) (fun c36 => ?_)
                          · replace h := ifP c36 h
                            refine g_sub (ls' := [(0, .ref o0), (1, .int ((16 * (r1.2.2 o0 12)) + v3)), (2, .long (r1.2.1 o0 26)), (4, .int (s7 + 1))]) [0, 1, 2, 3] rfl ?_
                            obtain rfl := Option.some.inj h
                            exact ihl10 (s7 + 1) r33.2.1 I35 hwl10
                          · replace h := ifN c36 h
                            obtain rfl := Option.some.inj h
                            exact Kl10 ((s7 + 1, r14, r33.2.1, I35)) hwl10
                    replace h := hpj28
                    clear hpj28
                    refine g_icmp_ge hX (pc := 133) dX5_orderLine_133 (tgt := 140) (by decide) (fun c27 => ?_) (fun c27 => ?_)
                    · replace h := ifP c27 h
                      refine g_iconst hX (pc := 136) (v := 1) dX5_orderLine_136 (by decide) ?_
                      refine g_goto hX (pc := 137) (tgt := 141) dX5_orderLine_137 (by decide) ?_
                      exact Kj28 1 (Option.some.inj h)
                    · replace h := ifN c27 h
                      refine g_iconst hX (pc := 140) (v := 0) dX5_orderLine_140 (by decide) ?_
                      exact Kj28 0 (Option.some.inj h)
                replace h := hpj23
                clear hpj23
                refine g_if_lt hX (pc := 113) dX5_orderLine_113 (tgt := 120) (by decide) (fun c22 => ?_) (fun c22 => ?_)
                · replace h := ifP c22 h
                  refine g_iconst hX (pc := 120) (v := 0) dX5_orderLine_120 (by decide) ?_
                  exact Kj23 0 (Option.some.inj h)
                · replace h := ifN c22 h
                  refine g_iconst hX (pc := 116) (v := 1) dX5_orderLine_116 (by decide) ?_
                  refine g_goto hX (pc := 117) (tgt := 121) dX5_orderLine_117 (by decide) ?_
                  exact Kj23 1 (Option.some.inj h)
            replace h := hpj16
            clear hpj16
            refine g_if_lt hX (pc := 80) dX5_orderLine_80 (tgt := 98) (by decide) (fun c15 => ?_) (fun c15 => ?_)
            · replace h := ifP c15 h
              refine g_iconst hX (pc := 98) (v := 1) dX5_orderLine_98 (by decide) ?_
              refine g_goto hX (pc := 99) (tgt := 103) dX5_orderLine_99 (by decide) ?_
              exact Kj16 1 (Option.some.inj h)
            · replace h := ifN c15 h
              refine g_aload_n hX (pc := 83) (i := 0) dX5_orderLine_83 rfl 0 rfl ?_
              refine gf5_23 hX (pc := 84) ho0 fl_X5_45 dX5_orderLine_84 ?_
              refine g_bipush hX (pc := 87) (v := 10) dX5_orderLine_87 (by decide) ?_
              refine g_iload_n hX (pc := 89) (i := 1) dX5_orderLine_89 rfl 1 rfl ?_
              refine g_imul hX (pc := 90) dX5_orderLine_90 ?_
              refine g_iload hX (pc := 91) dX5_orderLine_91 4 rfl ?_
              refine g_iadd hX (pc := 93) dX5_orderLine_93 ?_
              obtain ⟨v17, e_v17, h⟩ := bnd h
              refine g_ialoadE hX (pc := 94) (s5_23 ho0).1 (s5_23 ho0).2.1 (s5_23 ho0).2.2.1 e_v17 dX5_orderLine_94 ?_
              refine g_if_ne hX (pc := 95) dX5_orderLine_95 (tgt := 102) (by decide) (fun c18 => ?_) (fun c18 => ?_)
              · replace h := ifP c18 h
                refine g_iconst hX (pc := 98) (v := 1) dX5_orderLine_98 (by decide) ?_
                refine g_goto hX (pc := 99) (tgt := 103) dX5_orderLine_99 (by decide) ?_
                exact Kj16 1 (Option.some.inj h)
              · replace h := ifN c18 h
                refine g_iconst hX (pc := 102) (v := 0) dX5_orderLine_102 (by decide) ?_
                exact Kj16 0 (Option.some.inj h)
      exact Ll10 kl10 0 r4.2.1 I6 hkl10
