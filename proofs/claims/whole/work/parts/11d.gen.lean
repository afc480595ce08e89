noncomputable def b_X5_freeHole_2 (o0 : Nat) (I : MI) (s : Int32) : Option ((Int32) ⊕ ((Int32) ⊕ (Int32))) :=
  (rd 2 (I (o0 + 4)) 0).bind fun v3 =>
  if s < v3 then
    (rd 2117 (I (o0 + 13)) (362 + s)).bind fun v5 =>
    if v5 < 0 then
      some (.inr (.inl s))
    else
      some (.inl (s + 1))
  else
    some (.inr (.inr s))
noncomputable def f_X5_freeHole (o0 : Nat) (J : MJ) (I : MI) : Option (Int32) :=
  (lp (b_X5_freeHole_2 o0 I) 0).bind fun p7 =>
  Sum.elim (fun rr => some rr) (fun q8 =>
    some ((-1))) p7
theorem nm_X5_freeHole : yX5_freeHole.cls ≠ "java/lang/invoke/MethodHandle" ∧ yX5_freeHole.cls ≠ "java/lang/invoke/VarHandle" ∧ (parseMethodDescriptor yX5_freeHole.desc).map (fun d => d.parameters.length) = some 0 := by decide +kernel
set_option maxRecDepth 100000 in
set_option maxHeartbeats 4000000 in
theorem ct_X5_freeHole {E : Ev} {d : Nat} {z : Sh} {J : MJ} {I : MI} {o0 : Nat} {rr : Int32} (ho0 : oX5 z o0) (h : f_X5_freeHole o0 J I = some rr) : Ct E (d + 0) yX5_freeHole cX5_freeHole 2 (some .int) 0 0 [.ref o0] z J I (some (.int rr)) z J I := by
  unfold f_X5_freeHole at h
  refine Ct.of (own := RX5) (ls := [(0, .ref o0)]) (by decide) rfl (Nat.le_of_ble_eq_true rfl) rfl ?_
  intro X hr0 hnm hX
  refine g_iconst hX (pc := 0) (v := 0) dX5_freeHole_0 (by decide) ?_
  refine g_istore_n hX (pc := 1) (i := 1) (ls' := [(0, .ref o0), (1, .int 0)]) [1, 0] dX5_freeHole_1 rfl (by decide) rfl ?_
  obtain ⟨p7, hpl2, h⟩ := bnd h
  have KRl2 : ∀ rl2 : Int32, Sum.inl rl2 = p7 → some rl2 = some rr := by intro rl2 hrl2; subst hrl2; exact h
  have Kl2 : ∀ q8 : Int32, Sum.inr q8 = p7 → GW E X (QX E X 0 0 (some (.int rr)) z J I) 2 33 [(0, .ref o0), (1, .int q8)] [] z J I 0 0 := by
    intro q8 hql2
    subst hql2
    refine g_iconst hX (pc := 33) (v := (-1)) dX5_freeHole_33 (by decide) ?_
    obtain rfl := Option.some.inj h
    exact g_ireturn hX (Nat.le_refl _) (Nat.le_refl _) dX5_freeHole_34
  obtain ⟨kl2, hkl2⟩ := lp_ex hpl2
  clear hpl2 h
  have Ll2 : ∀ k : Nat, ∀ (s1 : Int32), lpN k (b_X5_freeHole_2 o0 I) s1 = some p7 → GW E X (QX E X 0 0 (some (.int rr)) z J I) 2 2 [(0, .ref o0), (1, .int s1)] [] z J I 0 0 := by
    intro k
    induction k with
    | zero => intro s1 h; cases h
    | succ k ihl2 =>
      intro s1 h
      obtain ⟨wl2, h, hwl2⟩ := lpN_s h
      unfold b_X5_freeHole_2 at h
      try dsimp only at h
      refine g_iload_n hX (pc := 2) (i := 1) dX5_freeHole_2 rfl 1 rfl ?_
      refine g_aload_n hX (pc := 3) (i := 0) dX5_freeHole_3 rfl 0 rfl ?_
      refine gf5_15 hX (pc := 4) ho0 fl_X5_20 dX5_freeHole_4 ?_
      refine g_iconst hX (pc := 7) (v := 0) dX5_freeHole_7 (by decide) ?_
      obtain ⟨v3, e_v3, h⟩ := bnd h
      refine g_ialoadE hX (pc := 8) (s5_15 ho0).1 (s5_15 ho0).2.1 (s5_15 ho0).2.2.1 e_v3 dX5_freeHole_8 ?_
      refine g_icmp_ge hX (pc := 9) dX5_freeHole_9 (tgt := 33) (by decide) (fun c4 => ?_) (fun c4 => ?_)
      · replace h := ifP c4 h
        refine g_aload_n hX (pc := 12) (i := 0) dX5_freeHole_12 rfl 0 rfl ?_
        refine gf5_27 hX (pc := 13) ho0 fl_X5_48 dX5_freeHole_13 ?_
        refine g_sipush hX (pc := 16) (v := 362) dX5_freeHole_16 (by decide) ?_
        refine g_iload_n hX (pc := 19) (i := 1) dX5_freeHole_19 rfl 1 rfl ?_
        refine g_iadd hX (pc := 20) dX5_freeHole_20 ?_
        obtain ⟨v5, e_v5, h⟩ := bnd h
        refine g_ialoadE hX (pc := 21) (s5_27 ho0).1 (s5_27 ho0).2.1 (s5_27 ho0).2.2.1 e_v5 dX5_freeHole_21 ?_
        refine g_if_ge hX (pc := 22) dX5_freeHole_22 (tgt := 27) (by decide) (fun c6 => ?_) (fun c6 => ?_)
        · replace h := ifP c6 h
          refine g_iload_n hX (pc := 25) (i := 1) dX5_freeHole_25 rfl 1 rfl ?_
          obtain rfl := Option.some.inj h
          replace h := KRl2 _ hwl2
          obtain rfl := Option.some.inj h
          exact g_ireturn hX (Nat.le_refl _) (Nat.le_refl _) dX5_freeHole_26
        · replace h := ifN c6 h
          refine g_iinc hX (pc := 27) (i := 1) (v := s1 + 1) (ls' := [(0, .ref o0), (1, .int (s1 + 1))]) 1 [1, 0] dX5_freeHole_27 rfl (by rfl) (by decide) rfl ?_
          refine g_goto hX (pc := 30) (tgt := 2) dX5_freeHole_30 (by decide) ?_
          obtain rfl := Option.some.inj h
          exact ihl2 (s1 + 1) hwl2
      · replace h := ifN c4 h
        obtain rfl := Option.some.inj h
        exact Kl2 s1 hwl2
  exact Ll2 kl2 0 hkl2
noncomputable def f_X5_canCome (o0 : Nat) (x1 : Int32) (J : MJ) (I : MI) : Option (Int32) :=
  (rd 2117 (I (o0 + 13)) (330 + x1)).bind fun v1 =>
  (if v1 = 2 then
    some 1
  else
    (rd 2117 (I (o0 + 13)) (330 + x1)).bind fun v4 =>
    if v4 = 3 then
      some 1
    else
      (f_X5_freeHole o0 J I).bind fun r6 =>
      if r6 < 0 then
        some 0
      else
        some 1).bind fun (p8 : Int32) =>
  (gb p8).bind fun b9 =>
  some p8
theorem nm_X5_canCome : yX5_canCome.cls ≠ "java/lang/invoke/MethodHandle" ∧ yX5_canCome.cls ≠ "java/lang/invoke/VarHandle" ∧ (parseMethodDescriptor yX5_canCome.desc).map (fun d => d.parameters.length) = some 1 := by decide +kernel
set_option maxRecDepth 100000 in
set_option maxHeartbeats 4000000 in
theorem ct_X5_canCome {E : Ev} {d : Nat} {z : Sh} {J : MJ} {I : MI} {o0 : Nat} {x1 : Int32} {rr : Int32} (ho0 : oX5 z o0) (h : f_X5_canCome o0 x1 J I = some rr) : Ct E (d + 1) yX5_canCome cX5_canCome 2 (some .boolean) 0 0 [.ref o0, .int x1] z J I (some (.int rr)) z J I := by
  unfold f_X5_canCome at h
  refine Ct.of (own := RX5) (ls := [(0, .ref o0), (1, .int x1)]) (by decide) rfl (Nat.le_of_ble_eq_true rfl) rfl ?_
  intro X hr0 hnm hX
  refine g_aload_n hX (pc := 0) (i := 0) dX5_canCome_0 rfl 0 rfl ?_
  refine gf5_27 hX (pc := 1) ho0 fl_X5_48 dX5_canCome_1 ?_
  refine g_sipush hX (pc := 4) (v := 330) dX5_canCome_4 (by decide) ?_
  refine g_iload_n hX (pc := 7) (i := 1) dX5_canCome_7 rfl 1 rfl ?_
  refine g_iadd hX (pc := 8) dX5_canCome_8 ?_
  obtain ⟨v1, e_v1, h⟩ := bnd h
  refine g_ialoadE hX (pc := 9) (s5_27 ho0).1 (s5_27 ho0).2.1 (s5_27 ho0).2.2.1 e_v1 dX5_canCome_9 ?_
  refine g_iconst hX (pc := 10) (v := 2) dX5_canCome_10 (by decide) ?_
  obtain ⟨p8, hpj3, h⟩ := bnd h
  have Kj3 : ∀ qj3 : Int32, qj3 = p8 → GW E X (QX E X 0 0 (some (.int rr)) z J I) 2 40 [(0, .ref o0), (1, .int x1)] [.int qj3] z J I 0 0 := by
    intro qj3 hqj3
    subst hqj3
    obtain ⟨b9, e_b9, h⟩ := bnd h
    obtain rfl := Option.some.inj h
    exact g_zreturn hX (gb_some e_b9).1 (Nat.le_refl _) (Nat.le_refl _) dX5_canCome_40
  replace h := hpj3
  clear hpj3
  refine g_icmp_eq hX (pc := 11) dX5_canCome_11 (tgt := 35) (by decide) (fun c2 => ?_) (fun c2 => ?_)
  · replace h := ifP c2 h
    refine g_iconst hX (pc := 35) (v := 1) dX5_canCome_35 (by decide) ?_
    refine g_goto hX (pc := 36) (tgt := 40) dX5_canCome_36 (by decide) ?_
    exact Kj3 1 (Option.some.inj h)
  · replace h := ifN c2 h
    refine g_aload_n hX (pc := 14) (i := 0) dX5_canCome_14 rfl 0 rfl ?_
    refine gf5_27 hX (pc := 15) ho0 fl_X5_48 dX5_canCome_15 ?_
    refine g_sipush hX (pc := 18) (v := 330) dX5_canCome_18 (by decide) ?_
    refine g_iload_n hX (pc := 21) (i := 1) dX5_canCome_21 rfl 1 rfl ?_
    refine g_iadd hX (pc := 22) dX5_canCome_22 ?_
    obtain ⟨v4, e_v4, h⟩ := bnd h
    refine g_ialoadE hX (pc := 23) (s5_27 ho0).1 (s5_27 ho0).2.1 (s5_27 ho0).2.2.1 e_v4 dX5_canCome_23 ?_
    refine g_iconst hX (pc := 24) (v := 3) dX5_canCome_24 (by decide) ?_
    refine g_icmp_eq hX (pc := 25) dX5_canCome_25 (tgt := 35) (by decide) (fun c5 => ?_) (fun c5 => ?_)
    · replace h := ifP c5 h
      refine g_iconst hX (pc := 35) (v := 1) dX5_canCome_35 (by decide) ?_
      refine g_goto hX (pc := 36) (tgt := 40) dX5_canCome_36 (by decide) ?_
      exact Kj3 1 (Option.some.inj h)
    · replace h := ifN c5 h
      refine g_aload_n hX (pc := 28) (i := 0) dX5_canCome_28 rfl 0 rfl ?_
      obtain ⟨r6, e_r6, h⟩ := bnd h
      refine g_callVi hX (pc := 29) (d := d + 0) hr0 [] (c := 5) (ct_X5_freeHole (d := d + 0) ho0 e_r6) ho0.1.1 ho0.1.2 (by decide) rfl co_X5_freeHole ml_X5_294 im_X5_freeHole sl_X5_freeHole ini_X5 nm_X5_freeHole (by decide) ⟨Nat.le_refl _, Nat.le_refl _⟩ (Nat.le_refl _) (Nat.le_of_ble_eq_true rfl) rfl dX5_canCome_29 ?_
      refine g_if_lt hX (pc := 32) dX5_canCome_32 (tgt := 39) (by decide) (fun c7 => ?_) (fun c7 => ?_)
      · replace h := ifP c7 h
        refine g_iconst hX (pc := 39) (v := 0) dX5_canCome_39 (by decide) ?_
        exact Kj3 0 (Option.some.inj h)
      · replace h := ifN c7 h
        refine g_iconst hX (pc := 35) (v := 1) dX5_canCome_35 (by decide) ?_
        refine g_goto hX (pc := 36) (tgt := 40) dX5_canCome_36 (by decide) ?_
        exact Kj3 1 (Option.some.inj h)
noncomputable def f_X5_freesHole (o0 : Nat) (x1 : Int32) (J : MJ) (I : MI) : Option (MI) :=
  (rd 2117 (I (o0 + 13)) (346 + x1)).bind fun v1 =>
  if v1 < 0 then
    some I
  else
    (rd 2117 (I (o0 + 13)) (346 + x1)).bind fun v3 =>
    (wr 2117 I (o0 + 13) (362 + v3) ((-1))).bind fun I4 =>
    (wr 2117 I4 (o0 + 13) (346 + x1) ((-1))).bind fun I5 =>
    some I5
theorem nm_X5_freesHole : yX5_freesHole.cls ≠ "java/lang/invoke/MethodHandle" ∧ yX5_freesHole.cls ≠ "java/lang/invoke/VarHandle" ∧ (parseMethodDescriptor yX5_freesHole.desc).map (fun d => d.parameters.length) = some 1 := by decide +kernel
set_option maxRecDepth 100000 in
set_option maxHeartbeats 4000000 in
theorem ct_X5_freesHole {E : Ev} {d : Nat} {z : Sh} {J : MJ} {I : MI} {o0 : Nat} {x1 : Int32} {Iz : MI} (ho0 : oX5 z o0) (h : f_X5_freesHole o0 x1 J I = some Iz) : Ct E (d + 0) yX5_freesHole cX5_freesHole 2 none 0 0 [.ref o0, .int x1] z J I none z J Iz := by
  unfold f_X5_freesHole at h
  refine Ct.of (own := RX5) (ls := [(0, .ref o0), (1, .int x1)]) (by decide) rfl (Nat.le_of_ble_eq_true rfl) rfl ?_
  intro X hr0 hnm hX
  refine g_aload_n hX (pc := 0) (i := 0) dX5_freesHole_0 rfl 0 rfl ?_
  refine gf5_27 hX (pc := 1) ho0 fl_X5_48 dX5_freesHole_1 ?_
  refine g_sipush hX (pc := 4) (v := 346) dX5_freesHole_4 (by decide) ?_
  refine g_iload_n hX (pc := 7) (i := 1) dX5_freesHole_7 rfl 1 rfl ?_
  refine g_iadd hX (pc := 8) dX5_freesHole_8 ?_
  obtain ⟨v1, e_v1, h⟩ := bnd h
  refine g_ialoadE hX (pc := 9) (s5_27 ho0).1 (s5_27 ho0).2.1 (s5_27 ho0).2.2.1 e_v1 dX5_freesHole_9 ?_
  refine g_if_ge hX (pc := 10) dX5_freesHole_10 (tgt := 14) (by decide) (fun c2 => ?_) (fun c2 => ?_)
  · replace h := ifP c2 h
    obtain rfl := Option.some.inj h
    exact g_return hX (Nat.le_refl _) (Nat.le_refl _) dX5_freesHole_13
  · replace h := ifN c2 h
    refine g_aload_n hX (pc := 14) (i := 0) dX5_freesHole_14 rfl 0 rfl ?_
    refine gf5_27 hX (pc := 15) ho0 fl_X5_48 dX5_freesHole_15 ?_
    refine g_sipush hX (pc := 18) (v := 362) dX5_freesHole_18 (by decide) ?_
    refine g_aload_n hX (pc := 21) (i := 0) dX5_freesHole_21 rfl 0 rfl ?_
    refine gf5_27 hX (pc := 22) ho0 fl_X5_48 dX5_freesHole_22 ?_
    refine g_sipush hX (pc := 25) (v := 346) dX5_freesHole_25 (by decide) ?_
    refine g_iload_n hX (pc := 28) (i := 1) dX5_freesHole_28 rfl 1 rfl ?_
    refine g_iadd hX (pc := 29) dX5_freesHole_29 ?_
    obtain ⟨v3, e_v3, h⟩ := bnd h
    refine g_ialoadE hX (pc := 30) (s5_27 ho0).1 (s5_27 ho0).2.1 (s5_27 ho0).2.2.1 e_v3 dX5_freesHole_30 ?_
    refine g_iadd hX (pc := 31) dX5_freesHole_31 ?_
    refine g_iconst hX (pc := 32) (v := (-1)) dX5_freesHole_32 (by decide) ?_
    obtain ⟨I4, e_I4, h⟩ := bnd h
    refine g_iastoreE hX (pc := 33) (s5_27 ho0).1 (s5_27 ho0).2.1 (s5_27 ho0).2.2.1 e_I4 dX5_freesHole_33 ?_
    refine g_aload_n hX (pc := 34) (i := 0) dX5_freesHole_34 rfl 0 rfl ?_
    refine gf5_27 hX (pc := 35) ho0 fl_X5_48 dX5_freesHole_35 ?_
    refine g_sipush hX (pc := 38) (v := 346) dX5_freesHole_38 (by decide) ?_
    refine g_iload_n hX (pc := 41) (i := 1) dX5_freesHole_41 rfl 1 rfl ?_
    refine g_iadd hX (pc := 42) dX5_freesHole_42 ?_
    refine g_iconst hX (pc := 43) (v := (-1)) dX5_freesHole_43 (by decide) ?_
    obtain ⟨I5, e_I5, h⟩ := bnd h
    refine g_iastoreE hX (pc := 44) (s5_27 ho0).1 (s5_27 ho0).2.1 (s5_27 ho0).2.2.1 e_I5 dX5_freesHole_44 ?_
    obtain rfl := Option.some.inj h
    exact g_return hX (Nat.le_refl _) (Nat.le_refl _) dX5_freesHole_45
noncomputable def f_X5_comes (o0 : Nat) (x1 : Int32) (x2 : Int32) (J : MJ) (I : MI) : Option (MI) :=
  (rd 2117 (I (o0 + 13)) (330 + x1)).bind fun v1 =>
  (if v1 = 1 then
    (f_X5_freeHole o0 J I).bind fun r4 =>
    (wr 2117 I (o0 + 13) (362 + r4) x1).bind fun I5 =>
    (wr 2117 I5 (o0 + 13) (346 + x1) r4).bind fun I6 =>
    (wr 2117 I6 (o0 + 13) (330 + x1) 2).bind fun I7 =>
    some I7
  else
    some I).bind fun (p8 : MI) =>
  (rd 2117 (p8 (o0 + 13)) ((10 + (10 * x1)) + x2)).bind fun v9 =>
  (wr 2117 p8 (o0 + 13) ((10 + (10 * x1)) + x2) (v9 + 1)).bind fun I10 =>
  (f_X5_sumOf o0 10 x1 J I10).bind fun r11 =>
  (f_X5_needOf o0 x1 J I10).bind fun r12 =>
  if r11 < r12 then
    some I10
  else
    (f_X5_freesHole o0 x1 J I10).bind fun r14 =>
    (wr 2117 r14 (o0 + 13) (330 + x1) 4).bind fun I15 =>
    (rd 2117 (I15 (o0 + 13)) 2100).bind fun v16 =>
    (wr 2117 I15 (o0 + 13) (2101 + v16) x1).bind fun I17 =>
    (rd 2117 (I17 (o0 + 13)) 2100).bind fun v18 =>
    (wr 2117 I17 (o0 + 13) 2100 (v18 + 1)).bind fun I19 =>
    some I19
theorem nm_X5_comes : yX5_comes.cls ≠ "java/lang/invoke/MethodHandle" ∧ yX5_comes.cls ≠ "java/lang/invoke/VarHandle" ∧ (parseMethodDescriptor yX5_comes.desc).map (fun d => d.parameters.length) = some 2 := by decide +kernel
set_option maxRecDepth 100000 in
set_option maxHeartbeats 4000000 in
theorem ct_X5_comes {E : Ev} {d : Nat} {z : Sh} {J : MJ} {I : MI} {o0 : Nat} {x1 : Int32} {x2 : Int32} {Iz : MI} (ho0 : oX5 z o0) (h : f_X5_comes o0 x1 x2 J I = some Iz) : Ct E (d + 1) yX5_comes cX5_comes 4 none 0 0 [.ref o0, .int x1, .int x2] z J I none z J Iz := by
  unfold f_X5_comes at h
  refine Ct.of (own := RX5) (ls := [(0, .ref o0), (1, .int x1), (2, .int x2)]) (by decide) rfl (Nat.le_of_ble_eq_true rfl) rfl ?_
  intro X hr0 hnm hX
  refine g_aload_n hX (pc := 0) (i := 0) dX5_comes_0 rfl 0 rfl ?_
  refine gf5_27 hX (pc := 1) ho0 fl_X5_48 dX5_comes_1 ?_
  refine g_sipush hX (pc := 4) (v := 330) dX5_comes_4 (by decide) ?_
  refine g_iload_n hX (pc := 7) (i := 1) dX5_comes_7 rfl 1 rfl ?_
  refine g_iadd hX (pc := 8) dX5_comes_8 ?_
  obtain ⟨v1, e_v1, h⟩ := bnd h
  refine g_ialoadE hX (pc := 9) (s5_27 ho0).1 (s5_27 ho0).2.1 (s5_27 ho0).2.2.1 e_v1 dX5_comes_9 ?_
  refine g_iconst hX (pc := 10) (v := 1) dX5_comes_10 (by decide) ?_
  obtain ⟨p8, hpj3, h⟩ := bnd h
  have Kj3 : ∀ qj3 : MI, qj3 = p8 → GW E X (QX E X 0 0 none z J Iz) 4 52 [(0, .ref o0), (1, .int x1), (2, .int x2)] [] z J qj3 0 0 := by
    intro qj3 hqj3
    subst hqj3
    refine g_aload_n hX (pc := 52) (i := 0) dX5_comes_52 rfl 0 rfl ?_
    refine gf5_27 hX (pc := 53) ho0 fl_X5_48 dX5_comes_53 ?_
    refine g_bipush hX (pc := 56) (v := 10) dX5_comes_56 (by decide) ?_
    refine g_bipush hX (pc := 58) (v := 10) dX5_comes_58 (by decide) ?_
    refine g_iload_n hX (pc := 60) (i := 1) dX5_comes_60 rfl 1 rfl ?_
    refine g_imul hX (pc := 61) dX5_comes_61 ?_
    refine g_iadd hX (pc := 62) dX5_comes_62 ?_
    refine g_iload_n hX (pc := 63) (i := 2) dX5_comes_63 rfl 2 rfl ?_
    refine g_iadd hX (pc := 64) dX5_comes_64 ?_
    refine g_dup2 hX (pc := 65) dX5_comes_65 rfl rfl ?_
    obtain ⟨v9, e_v9, h⟩ := bnd h
    refine g_ialoadE hX (pc := 66) (s5_27 ho0).1 (s5_27 ho0).2.1 (s5_27 ho0).2.2.1 e_v9 dX5_comes_66 ?_
    refine g_iconst hX (pc := 67) (v := 1) dX5_comes_67 (by decide) ?_
    refine g_iadd hX (pc := 68) dX5_comes_68 ?_
    obtain ⟨I10, e_I10, h⟩ := bnd h
    refine g_iastoreE hX (pc := 69) (s5_27 ho0).1 (s5_27 ho0).2.1 (s5_27 ho0).2.2.1 e_I10 dX5_comes_69 ?_
    refine g_aload_n hX (pc := 70) (i := 0) dX5_comes_70 rfl 0 rfl ?_
    refine g_bipush hX (pc := 71) (v := 10) dX5_comes_71 (by decide) ?_
    refine g_iload_n hX (pc := 73) (i := 1) dX5_comes_73 rfl 1 rfl ?_
    obtain ⟨r11, e_r11, h⟩ := bnd h
    refine g_callVi hX (pc := 74) (d := d + 0) hr0 [.int 10, .int x1] (c := 5) (ct_X5_sumOf (d := d + 0) ho0 e_r11) ho0.1.1 ho0.1.2 (by decide) rfl co_X5_sumOf ml_X5_240 im_X5_sumOf sl_X5_sumOf ini_X5 nm_X5_sumOf (by decide) ⟨Nat.le_refl _, Nat.le_refl _⟩ (Nat.le_refl _) (Nat.le_of_ble_eq_true rfl) rfl dX5_comes_74 ?_
    refine g_aload_n hX (pc := 77) (i := 0) dX5_comes_77 rfl 0 rfl ?_
    refine g_iload_n hX (pc := 78) (i := 1) dX5_comes_78 rfl 1 rfl ?_
    obtain ⟨r12, e_r12, h⟩ := bnd h
    refine g_callVi hX (pc := 79) (d := d + 0) hr0 [.int x1] (c := 5) (ct_X5_needOf (d := d + 0) ho0 e_r12) ho0.1.1 ho0.1.2 (by decide) rfl co_X5_needOf ml_X5_237 im_X5_needOf sl_X5_needOf ini_X5 nm_X5_needOf (by decide) ⟨Nat.le_refl _, Nat.le_refl _⟩ (Nat.le_refl _) (Nat.le_of_ble_eq_true rfl) rfl dX5_comes_79 ?_
    refine g_icmp_ge hX (pc := 82) dX5_comes_82 (tgt := 86) (by decide) (fun c13 => ?_) (fun c13 => ?_)
    · replace h := ifP c13 h
      obtain rfl := Option.some.inj h
      exact g_return hX (Nat.le_refl _) (Nat.le_refl _) dX5_comes_85
    · replace h := ifN c13 h
      refine g_aload_n hX (pc := 86) (i := 0) dX5_comes_86 rfl 0 rfl ?_
      refine g_iload_n hX (pc := 87) (i := 1) dX5_comes_87 rfl 1 rfl ?_
      obtain ⟨r14, e_r14, h⟩ := bnd h
      refine g_callVv hX (pc := 88) (d := d + 0) hr0 [.int x1] (c := 5) (ct_X5_freesHole (d := d + 0) ho0 e_r14) ho0.1.1 ho0.1.2 (by decide) rfl co_X5_freesHole ml_X5_297 im_X5_freesHole sl_X5_freesHole ini_X5 nm_X5_freesHole (by decide) ⟨Nat.le_refl _, Nat.le_refl _⟩ (Nat.le_refl _) (Nat.le_of_ble_eq_true rfl) rfl dX5_comes_88 ?_
      refine g_aload_n hX (pc := 91) (i := 0) dX5_comes_91 rfl 0 rfl ?_
      refine gf5_27 hX (pc := 92) ho0 fl_X5_48 dX5_comes_92 ?_
      refine g_sipush hX (pc := 95) (v := 330) dX5_comes_95 (by decide) ?_
      refine g_iload_n hX (pc := 98) (i := 1) dX5_comes_98 rfl 1 rfl ?_
      refine g_iadd hX (pc := 99) dX5_comes_99 ?_
      refine g_iconst hX (pc := 100) (v := 4) dX5_comes_100 (by decide) ?_
      obtain ⟨I15, e_I15, h⟩ := bnd h
      refine g_iastoreE hX (pc := 101) (s5_27 ho0).1 (s5_27 ho0).2.1 (s5_27 ho0).2.2.1 e_I15 dX5_comes_101 ?_
      refine g_aload_n hX (pc := 102) (i := 0) dX5_comes_102 rfl 0 rfl ?_
      refine gf5_27 hX (pc := 103) ho0 fl_X5_48 dX5_comes_103 ?_
      refine g_sipush hX (pc := 106) (v := 2101) dX5_comes_106 (by decide) ?_
      refine g_aload_n hX (pc := 109) (i := 0) dX5_comes_109 rfl 0 rfl ?_
      refine gf5_27 hX (pc := 110) ho0 fl_X5_48 dX5_comes_110 ?_
      refine g_sipush hX (pc := 113) (v := 2100) dX5_comes_113 (by decide) ?_
      obtain ⟨v16, e_v16, h⟩ := bnd h
      refine g_ialoadE hX (pc := 116) (s5_27 ho0).1 (s5_27 ho0).2.1 (s5_27 ho0).2.2.1 e_v16 dX5_comes_116 ?_
      refine g_iadd hX (pc := 117) dX5_comes_117 ?_
      refine g_iload_n hX (pc := 118) (i := 1) dX5_comes_118 rfl 1 rfl ?_
      obtain ⟨I17, e_I17, h⟩ := bnd h
      refine g_iastoreE hX (pc := 119) (s5_27 ho0).1 (s5_27 ho0).2.1 (s5_27 ho0).2.2.1 e_I17 dX5_comes_119 ?_
      refine g_aload_n hX (pc := 120) (i := 0) dX5_comes_120 rfl 0 rfl ?_
      refine gf5_27 hX (pc := 121) ho0 fl_X5_48 dX5_comes_121 ?_
      refine g_sipush hX (pc := 124) (v := 2100) dX5_comes_124 (by decide) ?_
      refine g_dup2 hX (pc := 127) dX5_comes_127 rfl rfl ?_
      obtain ⟨v18, e_v18, h⟩ := bnd h
      refine g_ialoadE hX (pc := 128) (s5_27 ho0).1 (s5_27 ho0).2.1 (s5_27 ho0).2.2.1 e_v18 dX5_comes_128 ?_
      refine g_iconst hX (pc := 129) (v := 1) dX5_comes_129 (by decide) ?_
      refine g_iadd hX (pc := 130) dX5_comes_130 ?_
      obtain ⟨I19, e_I19, h⟩ := bnd h
      refine g_iastoreE hX (pc := 131) (s5_27 ho0).1 (s5_27 ho0).2.1 (s5_27 ho0).2.2.1 e_I19 dX5_comes_131 ?_
      obtain rfl := Option.some.inj h
      exact g_return hX (Nat.le_refl _) (Nat.le_refl _) dX5_comes_132
  replace h := hpj3
  clear hpj3
  refine g_icmp_ne hX (pc := 11) dX5_comes_11 (tgt := 52) (by decide) (fun c2 => ?_) (fun c2 => ?_)
  · replace h := ifP c2 h
    refine g_aload_n hX (pc := 14) (i := 0) dX5_comes_14 rfl 0 rfl ?_
    obtain ⟨r4, e_r4, h⟩ := bnd h
    refine g_callVi hX (pc := 15) (d := d + 0) hr0 [] (c := 5) (ct_X5_freeHole (d := d + 0) ho0 e_r4) ho0.1.1 ho0.1.2 (by decide) rfl co_X5_freeHole ml_X5_294 im_X5_freeHole sl_X5_freeHole ini_X5 nm_X5_freeHole (by decide) ⟨Nat.le_refl _, Nat.le_refl _⟩ (Nat.le_refl _) (Nat.le_of_ble_eq_true rfl) rfl dX5_comes_15 ?_
    refine g_istore_n hX (pc := 18) (i := 3) (ls' := [(0, .ref o0), (1, .int x1), (2, .int x2), (3, .int r4)]) [1, 2, 3, 0] dX5_comes_18 rfl (by decide) rfl ?_
    refine g_aload_n hX (pc := 19) (i := 0) dX5_comes_19 rfl 0 rfl ?_
    refine gf5_27 hX (pc := 20) ho0 fl_X5_48 dX5_comes_20 ?_
    refine g_sipush hX (pc := 23) (v := 362) dX5_comes_23 (by decide) ?_
    refine g_iload_n hX (pc := 26) (i := 3) dX5_comes_26 rfl 3 rfl ?_
    refine g_iadd hX (pc := 27) dX5_comes_27 ?_
    refine g_iload_n hX (pc := 28) (i := 1) dX5_comes_28 rfl 1 rfl ?_
    obtain ⟨I5, e_I5, h⟩ := bnd h
    refine g_iastoreE hX (pc := 29) (s5_27 ho0).1 (s5_27 ho0).2.1 (s5_27 ho0).2.2.1 e_I5 dX5_comes_29 ?_
    refine g_aload_n hX (pc := 30) (i := 0) dX5_comes_30 rfl 0 rfl ?_
    refine gf5_27 hX (pc := 31) ho0 fl_X5_48 dX5_comes_31 ?_
    refine g_sipush hX (pc := 34) (v := 346) dX5_comes_34 (by decide) ?_
    refine g_iload_n hX (pc := 37) (i := 1) dX5_comes_37 rfl 1 rfl ?_
    refine g_iadd hX (pc := 38) dX5_comes_38 ?_
    refine g_iload_n hX (pc := 39) (i := 3) dX5_comes_39 rfl 3 rfl ?_
    obtain ⟨I6, e_I6, h⟩ := bnd h
    refine g_iastoreE hX (pc := 40) (s5_27 ho0).1 (s5_27 ho0).2.1 (s5_27 ho0).2.2.1 e_I6 dX5_comes_40 ?_
    refine g_aload_n hX (pc := 41) (i := 0) dX5_comes_41 rfl 0 rfl ?_
    refine gf5_27 hX (pc := 42) ho0 fl_X5_48 dX5_comes_42 ?_
    refine g_sipush hX (pc := 45) (v := 330) dX5_comes_45 (by decide) ?_
    refine g_iload_n hX (pc := 48) (i := 1) dX5_comes_48 rfl 1 rfl ?_
    refine g_iadd hX (pc := 49) dX5_comes_49 ?_
    refine g_iconst hX (pc := 50) (v := 2) dX5_comes_50 (by decide) ?_
    obtain ⟨I7, e_I7, h⟩ := bnd h
    refine g_iastoreE hX (pc := 51) (s5_27 ho0).1 (s5_27 ho0).2.1 (s5_27 ho0).2.2.1 e_I7 dX5_comes_51 ?_
    refine g_sub (ls' := [(0, .ref o0), (1, .int x1), (2, .int x2)]) [0, 1, 2] rfl ?_
    exact Kj3 I7 (Option.some.inj h)
  · replace h := ifN c2 h
    exact Kj3 I (Option.some.inj h)
noncomputable def b_X5_drops_3 (o0 : Nat) (x1 : Int32) (x2 : Int32) (s : Int32 × MI) : Option ((Int32 × MI) ⊕ (Int32 × MI)) :=
  (rd 2117 (s.2 (o0 + 13)) x2).bind fun v4 =>
  if (s.1 + 1) < v4 then
    (rd 2117 (s.2 (o0 + 13)) ((x1 + s.1) + 1)).bind fun v6 =>
    (wr 2117 s.2 (o0 + 13) (x1 + s.1) v6).bind fun I7 =>
    some (.inl ((s.1 + 1, I7)))
  else
    some (.inr ((s.1, s.2)))
noncomputable def f_X5_drops (o0 : Nat) (x1 : Int32) (x2 : Int32) (x3 : Int32) (J : MJ) (I : MI) : Option (MI) :=
  (lp (b_X5_drops_3 o0 x1 x2) ((x3, I))).bind fun p8 =>
  (rd 2117 (p8.2 (o0 + 13)) x2).bind fun v9 =>
  (wr 2117 p8.2 (o0 + 13) x2 (v9 - 1)).bind fun I10 =>
  some I10
theorem nm_X5_drops : yX5_drops.cls ≠ "java/lang/invoke/MethodHandle" ∧ yX5_drops.cls ≠ "java/lang/invoke/VarHandle" ∧ (parseMethodDescriptor yX5_drops.desc).map (fun d => d.parameters.length) = some 3 := by decide +kernel
set_option maxRecDepth 100000 in
set_option maxHeartbeats 4000000 in
theorem ct_X5_drops {E : Ev} {d : Nat} {z : Sh} {J : MJ} {I : MI} {o0 : Nat} {x1 : Int32} {x2 : Int32} {x3 : Int32} {Iz : MI} (ho0 : oX5 z o0) (h : f_X5_drops o0 x1 x2 x3 J I = some Iz) : Ct E (d + 0) yX5_drops cX5_drops 5 none 0 0 [.ref o0, .int x1, .int x2, .int x3] z J I none z J Iz := by
  unfold f_X5_drops at h
  refine Ct.of (own := RX5) (ls := [(0, .ref o0), (1, .int x1), (2, .int x2), (3, .int x3)]) (by decide) rfl (Nat.le_of_ble_eq_true rfl) rfl ?_
  intro X hr0 hnm hX
  refine g_iload_n hX (pc := 0) (i := 3) dX5_drops_0 rfl 3 rfl ?_
  refine g_istore hX (pc := 1) (ls' := [(0, .ref o0), (1, .int x1), (2, .int x2), (3, .int x3), (4, .int x3)]) [1, 2, 3, 4, 0] dX5_drops_1 (by decide) rfl ?_
  obtain ⟨p8, hpl3, h⟩ := bnd h
  have Kl3 : ∀ ql3 : Int32 × MI, ql3 = p8 → GW E X (QX E X 0 0 none z J Iz) 5 42 [(0, .ref o0), (1, .int x1), (2, .int x2), (3, .int x3), (4, .int ql3.1)] [] z J ql3.2 0 0 := by
    intro ql3 hql3
    subst hql3
    refine g_aload_n hX (pc := 42) (i := 0) dX5_drops_42 rfl 0 rfl ?_
    refine gf5_27 hX (pc := 43) ho0 fl_X5_48 dX5_drops_43 ?_
    refine g_iload_n hX (pc := 46) (i := 2) dX5_drops_46 rfl 2 rfl ?_
    refine g_dup2 hX (pc := 47) dX5_drops_47 rfl rfl ?_
    obtain ⟨v9, e_v9, h⟩ := bnd h
    refine g_ialoadE hX (pc := 48) (s5_27 ho0).1 (s5_27 ho0).2.1 (s5_27 ho0).2.2.1 e_v9 dX5_drops_48 ?_
    refine g_iconst hX (pc := 49) (v := 1) dX5_drops_49 (by decide) ?_
    refine g_isub hX (pc := 50) dX5_drops_50 ?_
    obtain ⟨I10, e_I10, h⟩ := bnd h
    refine g_iastoreE hX (pc := 51) (s5_27 ho0).1 (s5_27 ho0).2.1 (s5_27 ho0).2.2.1 e_I10 dX5_drops_51 ?_
    obtain rfl := Option.some.inj h
    exact g_return hX (Nat.le_refl _) (Nat.le_refl _) dX5_drops_52
  obtain ⟨kl3, hkl3⟩ := lp_ex hpl3
  clear hpl3 h
  have Ll3 : ∀ k : Nat, ∀ (s1 : Int32) (I2 : MI), lpN k (b_X5_drops_3 o0 x1 x2) ((s1, I2)) = some p8 → GW E X (QX E X 0 0 none z J Iz) 5 3 [(0, .ref o0), (1, .int x1), (2, .int x2), (3, .int x3), (4, .int s1)] [] z J I2 0 0 := by
    intro k
    induction k with
    | zero => intro s1 I2 h; cases h
    | succ k ihl3 =>
      intro s1 I2 h
      obtain ⟨wl3, h, hwl3⟩ := lpN_s h
      unfold b_X5_drops_3 at h
      try dsimp only at h
      refine g_iload hX (pc := 3) dX5_drops_3 4 rfl ?_
      refine g_iconst hX (pc := 5) (v := 1) dX5_drops_5 (by decide) ?_
      refine g_iadd hX (pc := 6) dX5_drops_6 ?_
      refine g_aload_n hX (pc := 7) (i := 0) dX5_drops_7 rfl 0 rfl ?_
      refine gf5_27 hX (pc := 8) ho0 fl_X5_48 dX5_drops_8 ?_
      refine g_iload_n hX (pc := 11) (i := 2) dX5_drops_11 rfl 2 rfl ?_
      obtain ⟨v4, e_v4, h⟩ := bnd h
      refine g_ialoadE hX (pc := 12) (s5_27 ho0).1 (s5_27 ho0).2.1 (s5_27 ho0).2.2.1 e_v4 dX5_drops_12 ?_
      refine g_icmp_ge hX (pc := 13) dX5_drops_13 (tgt := 42) (by decide) (fun c5 => ?_) (fun c5 => ?_)
      · replace h := ifP c5 h
        refine g_aload_n hX (pc := 16) (i := 0) dX5_drops_16 rfl 0 rfl ?_
        refine gf5_27 hX (pc := 17) ho0 fl_X5_48 dX5_drops_17 ?_
        refine g_iload_n hX (pc := 20) (i := 1) dX5_drops_20 rfl 1 rfl ?_
        refine g_iload hX (pc := 21) dX5_drops_21 4 rfl ?_
        refine g_iadd hX (pc := 23) dX5_drops_23 ?_
        refine g_aload_n hX (pc := 24) (i := 0) dX5_drops_24 rfl 0 rfl ?_
        refine gf5_27 hX (pc := 25) ho0 fl_X5_48 dX5_drops_25 ?_
        refine g_iload_n hX (pc := 28) (i := 1) dX5_drops_28 rfl 1 rfl ?_
        refine g_iload hX (pc := 29) dX5_drops_29 4 rfl ?_
        refine g_iadd hX (pc := 31) dX5_drops_31 ?_
        refine g_iconst hX (pc := 32) (v := 1) dX5_drops_32 (by decide) ?_
        refine g_iadd hX (pc := 33) dX5_drops_33 ?_
        obtain ⟨v6, e_v6, h⟩ := bnd h
        refine g_ialoadE hX (pc := 34) (s5_27 ho0).1 (s5_27 ho0).2.1 (s5_27 ho0).2.2.1 e_v6 dX5_drops_34 ?_
        obtain ⟨I7, e_I7, h⟩ := bnd h
        refine g_iastoreE hX (pc := 35) (s5_27 ho0).1 (s5_27 ho0).2.1 (s5_27 ho0).2.2.1 e_I7 dX5_drops_35 ?_
        refine g_iinc hX (pc := 36) (i := 4) (v := s1 + 1) (ls' := [(0, .ref o0), (1, .int x1), (2, .int x2), (3, .int x3), (4, .int (s1 + 1))]) 4 [1, 2, 3, 4, 0] dX5_drops_36 rfl (by rfl) (by decide) rfl ?_
        refine g_goto hX (pc := 39) (tgt := 3) dX5_drops_39 (by decide) ?_
        obtain rfl := Option.some.inj h
        exact ihl3 (s1 + 1) I7 hwl3
      · replace h := ifN c5 h
        obtain rfl := Option.some.inj h
        exact Kl3 ((s1, I2)) hwl3
  exact Ll3 kl3 x3 I hkl3
noncomputable def b_X5_settles_2 (o0 : Nat) (J : MJ) (s : Int32 × MI) : Option ((Int32 × MI) ⊕ (Int32 × MI)) :=
  (rd 2117 (s.2 (o0 + 13)) 1235).bind fun v4 =>
  if s.1 < v4 then
    (rd 2117 (s.2 (o0 + 13)) (1236 + s.1)).bind fun v6 =>
    (f_X5_canCome o0 (v6 / 10) J s.2).bind fun r7 =>
    if r7 = 0 then
      some (.inl ((s.1 + 1, s.2)))
    else
      (f_X5_drops o0 1236 1235 s.1 J s.2).bind fun r9 =>
      (f_X5_comes o0 (v6 / 10) (v6 - v6 / 10 * 10) J r9).bind fun r10 =>
      some (.inl ((0, r10)))
  else
    some (.inr ((s.1, s.2)))
noncomputable def f_X5_settles (o0 : Nat) (J : MJ) (I : MI) : Option (MI) :=
  (lp (b_X5_settles_2 o0 J) ((0, I))).bind fun p11 =>
  some p11.2
theorem nm_X5_settles : yX5_settles.cls ≠ "java/lang/invoke/MethodHandle" ∧ yX5_settles.cls ≠ "java/lang/invoke/VarHandle" ∧ (parseMethodDescriptor yX5_settles.desc).map (fun d => d.parameters.length) = some 0 := by decide +kernel
set_option maxRecDepth 100000 in
set_option maxHeartbeats 4000000 in
theorem ct_X5_settles {E : Ev} {d : Nat} {z : Sh} {J : MJ} {I : MI} {o0 : Nat} {Iz : MI} (ho0 : oX5 z o0) (h : f_X5_settles o0 J I = some Iz) : Ct E (d + 2) yX5_settles cX5_settles 3 none 0 0 [.ref o0] z J I none z J Iz := by
  unfold f_X5_settles at h
  refine Ct.of (own := RX5) (ls := [(0, .ref o0)]) (by decide) rfl (Nat.le_of_ble_eq_true rfl) rfl ?_
  intro X hr0 hnm hX
  refine g_iconst hX (pc := 0) (v := 0) dX5_settles_0 (by decide) ?_
  refine g_istore_n hX (pc := 1) (i := 1) (ls' := [(0, .ref o0), (1, .int 0)]) [1, 0] dX5_settles_1 rfl (by decide) rfl ?_
  obtain ⟨p11, hpl3, h⟩ := bnd h
  have Kl3 : ∀ ql3 : Int32 × MI, ql3 = p11 → GW E X (QX E X 0 0 none z J Iz) 3 70 [(0, .ref o0), (1, .int ql3.1)] [] z J ql3.2 0 0 := by
    intro ql3 hql3
    subst hql3
    obtain rfl := Option.some.inj h
    exact g_return hX (Nat.le_refl _) (Nat.le_refl _) dX5_settles_70
  obtain ⟨kl3, hkl3⟩ := lp_ex hpl3
  clear hpl3 h
  have Ll3 : ∀ k : Nat, ∀ (s1 : Int32) (I2 : MI), lpN k (b_X5_settles_2 o0 J) ((s1, I2)) = some p11 → GW E X (QX E X 0 0 none z J Iz) 3 2 [(0, .ref o0), (1, .int s1)] [] z J I2 0 0 := by
    intro k
    induction k with
    | zero => intro s1 I2 h; cases h
    | succ k ihl3 =>
      intro s1 I2 h
      obtain ⟨wl3, h, hwl3⟩ := lpN_s h
      unfold b_X5_settles_2 at h
      try dsimp only at h
      refine g_iload_n hX (pc := 2) (i := 1) dX5_settles_2 rfl 1 rfl ?_
      refine g_aload_n hX (pc := 3) (i := 0) dX5_settles_3 rfl 0 rfl ?_
      refine gf5_27 hX (pc := 4) ho0 fl_X5_48 dX5_settles_4 ?_
      refine g_sipush hX (pc := 7) (v := 1235) dX5_settles_7 (by decide) ?_
      obtain ⟨v4, e_v4, h⟩ := bnd h
      refine g_ialoadE hX (pc := 10) (s5_27 ho0).1 (s5_27 ho0).2.1 (s5_27 ho0).2.2.1 e_v4 dX5_settles_10 ?_
      refine g_icmp_ge hX (pc := 11) dX5_settles_11 (tgt := 70) (by decide) (fun c5 => ?_) (fun c5 => ?_)
      · replace h := ifP c5 h
        refine g_aload_n hX (pc := 14) (i := 0) dX5_settles_14 rfl 0 rfl ?_
        refine gf5_27 hX (pc := 15) ho0 fl_X5_48 dX5_settles_15 ?_
        refine g_sipush hX (pc := 18) (v := 1236) dX5_settles_18 (by decide) ?_
        refine g_iload_n hX (pc := 21) (i := 1) dX5_settles_21 rfl 1 rfl ?_
        refine g_iadd hX (pc := 22) dX5_settles_22 ?_
        obtain ⟨v6, e_v6, h⟩ := bnd h
        refine g_ialoadE hX (pc := 23) (s5_27 ho0).1 (s5_27 ho0).2.1 (s5_27 ho0).2.2.1 e_v6 dX5_settles_23 ?_
        refine g_istore_n hX (pc := 24) (i := 2) (ls' := [(0, .ref o0), (1, .int s1), (2, .int v6)]) [1, 2, 0] dX5_settles_24 rfl (by decide) rfl ?_
        refine g_aload_n hX (pc := 25) (i := 0) dX5_settles_25 rfl 0 rfl ?_
        refine g_iload_n hX (pc := 26) (i := 2) dX5_settles_26 rfl 2 rfl ?_
        refine g_bipush hX (pc := 27) (v := 10) dX5_settles_27 (by decide) ?_
        refine g_idiv hX (pc := 29) dX5_settles_29 (by decide) ?_
        obtain ⟨r7, e_r7, h⟩ := bnd h
        refine g_callVi hX (pc := 30) (d := d + 1) hr0 [.int (v6 / 10)] (c := 5) (ct_X5_canCome (d := d + 0) ho0 e_r7) ho0.1.1 ho0.1.2 (by decide) rfl co_X5_canCome ml_X5_300 im_X5_canCome sl_X5_canCome ini_X5 nm_X5_canCome (by decide) ⟨Nat.le_refl _, Nat.le_refl _⟩ (Nat.le_refl _) (Nat.le_of_ble_eq_true rfl) rfl dX5_settles_30 ?_
        refine g_if_ne hX (pc := 33) dX5_settles_33 (tgt := 42) (by decide) (fun c8 => ?_) (fun c8 => ?_)
        · replace h := ifP c8 h
          refine g_iinc hX (pc := 36) (i := 1) (v := s1 + 1) (ls' := [(0, .ref o0), (1, .int (s1 + 1)), (2, .int v6)]) 1 [1, 0, 2] dX5_settles_36 rfl (by rfl) (by decide) rfl ?_
          refine g_goto hX (pc := 39) (tgt := 2) dX5_settles_39 (by decide) ?_
          refine g_sub (ls' := [(0, .ref o0), (1, .int (s1 + 1))]) [0, 1] rfl ?_
          obtain rfl := Option.some.inj h
          exact ihl3 (s1 + 1) I2 hwl3
        · replace h := ifN c8 h
          refine g_aload_n hX (pc := 42) (i := 0) dX5_settles_42 rfl 0 rfl ?_
          refine g_sipush hX (pc := 43) (v := 1236) dX5_settles_43 (by decide) ?_
          refine g_sipush hX (pc := 46) (v := 1235) dX5_settles_46 (by decide) ?_
          refine g_iload_n hX (pc := 49) (i := 1) dX5_settles_49 rfl 1 rfl ?_
          obtain ⟨r9, e_r9, h⟩ := bnd h
          refine g_callVv hX (pc := 50) (d := d + 1) hr0 [.int 1236, .int 1235, .int s1] (c := 5) (ct_X5_drops (d := d + 1) ho0 e_r9) ho0.1.1 ho0.1.2 (by decide) rfl co_X5_drops ml_X5_303 im_X5_drops sl_X5_drops ini_X5 nm_X5_drops (by decide) ⟨Nat.le_refl _, Nat.le_refl _⟩ (Nat.le_refl _) (Nat.le_of_ble_eq_true rfl) rfl dX5_settles_50 ?_
          refine g_aload_n hX (pc := 53) (i := 0) dX5_settles_53 rfl 0 rfl ?_
          refine g_iload_n hX (pc := 54) (i := 2) dX5_settles_54 rfl 2 rfl ?_
          refine g_bipush hX (pc := 55) (v := 10) dX5_settles_55 (by decide) ?_
          refine g_idiv hX (pc := 57) dX5_settles_57 (by decide) ?_
          refine g_iload_n hX (pc := 58) (i := 2) dX5_settles_58 rfl 2 rfl ?_
          refine g_bipush hX (pc := 59) (v := 10) dX5_settles_59 (by decide) ?_
          refine g_irem hX (pc := 61) dX5_settles_61 (by decide) ?_
          obtain ⟨r10, e_r10, h⟩ := bnd h
          refine g_callVv hX (pc := 62) (d := d + 1) hr0 [.int (v6 / 10), .int (v6 - v6 / 10 * 10)] (c := 5) (ct_X5_comes (d := d + 0) ho0 e_r10) ho0.1.1 ho0.1.2 (by decide) rfl co_X5_comes ml_X5_307 im_X5_comes sl_X5_comes ini_X5 nm_X5_comes (by decide) ⟨Nat.le_refl _, Nat.le_refl _⟩ (Nat.le_refl _) (Nat.le_of_ble_eq_true rfl) rfl dX5_settles_62 ?_
          refine g_iconst hX (pc := 65) (v := 0) dX5_settles_65 (by decide) ?_
          refine g_istore_n hX (pc := 66) (i := 1) (ls' := [(0, .ref o0), (1, .int 0), (2, .int v6)]) [1, 0, 2] dX5_settles_66 rfl (by decide) rfl ?_
          refine g_goto hX (pc := 67) (tgt := 2) dX5_settles_67 (by decide) ?_
          refine g_sub (ls' := [(0, .ref o0), (1, .int 0)]) [0, 1] rfl ?_
          obtain rfl := Option.some.inj h
          exact ihl3 0 r10 hwl3
      · replace h := ifN c5 h
        obtain rfl := Option.some.inj h
        exact Kl3 ((s1, I2)) hwl3
  exact Ll3 kl3 0 I hkl3
noncomputable def b_X5_goes_2 (o0 : Nat) (x1 : Int32) (J : MJ) (s : Int32 × MI) : Option ((Int32 × MI) ⊕ (Int32 × MI)) :=
  if s.1 < x1 then
    (rd 2117 (s.2 (o0 + 13)) 370).bind fun v5 =>
    if 0 < v5 then
      (rd 2117 (s.2 (o0 + 13)) 371).bind fun v7 =>
      (f_X5_drops o0 371 370 0 J s.2).bind fun r8 =>
      (f_X5_canCome o0 (v7 / 10) J r8).bind fun r9 =>
      (if r9 = 0 then
        (rd 2117 (r8 (o0 + 13)) 1235).bind fun v12 =>
        (wr 2117 r8 (o0 + 13) (1236 + v12) v7).bind fun I13 =>
        (rd 2117 (I13 (o0 + 13)) 1235).bind fun v14 =>
        (wr 2117 I13 (o0 + 13) 1235 (v14 + 1)).bind fun I15 =>
        some I15
      else
        (f_X5_comes o0 (v7 / 10) (v7 - v7 / 10 * 10) J r8).bind fun r16 =>
        (f_X5_settles o0 J r16).bind fun r17 =>
        some r17).bind fun (p18 : MI) =>
      some (.inl ((s.1 + 1, p18)))
    else
      some (.inr ((s.1, s.2)))
  else
    some (.inr ((s.1, s.2)))
noncomputable def f_X5_goes (o0 : Nat) (x1 : Int32) (J : MJ) (I : MI) : Option (Int32 × MI) :=
  (lp (b_X5_goes_2 o0 x1 J) ((0, I))).bind fun p19 =>
  some ((p19.1, p19.2))
theorem nm_X5_goes : yX5_goes.cls ≠ "java/lang/invoke/MethodHandle" ∧ yX5_goes.cls ≠ "java/lang/invoke/VarHandle" ∧ (parseMethodDescriptor yX5_goes.desc).map (fun d => d.parameters.length) = some 1 := by decide +kernel
set_option maxRecDepth 100000 in
set_option maxHeartbeats 4000000 in
theorem ct_X5_goes {E : Ev} {d : Nat} {z : Sh} {J : MJ} {I : MI} {o0 : Nat} {x1 : Int32} {rr : Int32} {Iz : MI} (ho0 : oX5 z o0) (h : f_X5_goes o0 x1 J I = some ((rr, Iz))) : Ct E (d + 3) yX5_goes cX5_goes 4 (some .int) 0 0 [.ref o0, .int x1] z J I (some (.int rr)) z J Iz := by
  unfold f_X5_goes at h
  refine Ct.of (own := RX5) (ls := [(0, .ref o0), (1, .int x1)]) (by decide) rfl (Nat.le_of_ble_eq_true rfl) rfl ?_
  intro X hr0 hnm hX
  refine g_iconst hX (pc := 0) (v := 0) dX5_goes_0 (by decide) ?_
  refine g_istore_n hX (pc := 1) (i := 2) (ls' := [(0, .ref o0), (1, .int x1), (2, .int 0)]) [1, 2, 0] dX5_goes_1 rfl (by decide) rfl ?_
  obtain ⟨p19, hpl3, h⟩ := bnd h
  have Kl3 : ∀ ql3 : Int32 × MI, ql3 = p19 → GW E X (QX E X 0 0 (some (.int rr)) z J Iz) 4 104 [(0, .ref o0), (1, .int x1), (2, .int ql3.1)] [] z J ql3.2 0 0 := by
    intro ql3 hql3
    subst hql3
    refine g_iload_n hX (pc := 104) (i := 2) dX5_goes_104 rfl 2 rfl ?_
    replace h := Option.some.inj h
    obtain ⟨rfl, rfl⟩ := Prod.mk.inj h
    exact g_ireturn hX (Nat.le_refl _) (Nat.le_refl _) dX5_goes_105
  obtain ⟨kl3, hkl3⟩ := lp_ex hpl3
  clear hpl3 h
  have Ll3 : ∀ k : Nat, ∀ (s1 : Int32) (I2 : MI), lpN k (b_X5_goes_2 o0 x1 J) ((s1, I2)) = some p19 → GW E X (QX E X 0 0 (some (.int rr)) z J Iz) 4 2 [(0, .ref o0), (1, .int x1), (2, .int s1)] [] z J I2 0 0 := by
    intro k
    induction k with
    | zero => intro s1 I2 h; cases h
    | succ k ihl3 =>
      intro s1 I2 h
      obtain ⟨wl3, h, hwl3⟩ := lpN_s h
      unfold b_X5_goes_2 at h
      try dsimp only at h
      refine g_iload_n hX (pc := 2) (i := 2) dX5_goes_2 rfl 2 rfl ?_
      refine g_iload_n hX (pc := 3) (i := 1) dX5_goes_3 rfl 1 rfl ?_
      refine g_icmp_ge hX (pc := 4) dX5_goes_4 (tgt := 104) (by decide) (fun c4 => ?_) (fun c4 => ?_)
      · replace h := ifP c4 h
        refine g_aload_n hX (pc := 7) (i := 0) dX5_goes_7 rfl 0 rfl ?_
        refine gf5_27 hX (pc := 8) ho0 fl_X5_48 dX5_goes_8 ?_
        refine g_sipush hX (pc := 11) (v := 370) dX5_goes_11 (by decide) ?_
        obtain ⟨v5, e_v5, h⟩ := bnd h
        refine g_ialoadE hX (pc := 14) (s5_27 ho0).1 (s5_27 ho0).2.1 (s5_27 ho0).2.2.1 e_v5 dX5_goes_14 ?_
        refine g_if_le hX (pc := 15) dX5_goes_15 (tgt := 104) (by decide) (fun c6 => ?_) (fun c6 => ?_)
        · replace h := ifP c6 h
          refine g_aload_n hX (pc := 18) (i := 0) dX5_goes_18 rfl 0 rfl ?_
          refine gf5_27 hX (pc := 19) ho0 fl_X5_48 dX5_goes_19 ?_
          refine g_sipush hX (pc := 22) (v := 371) dX5_goes_22 (by decide) ?_
          obtain ⟨v7, e_v7, h⟩ := bnd h
          refine g_ialoadE hX (pc := 25) (s5_27 ho0).1 (s5_27 ho0).2.1 (s5_27 ho0).2.2.1 e_v7 dX5_goes_25 ?_
          refine g_istore_n hX (pc := 26) (i := 3) (ls' := [(0, .ref o0), (1, .int x1), (2, .int s1), (3, .int v7)]) [1, 2, 3, 0] dX5_goes_26 rfl (by decide) rfl ?_
          refine g_aload_n hX (pc := 27) (i := 0) dX5_goes_27 rfl 0 rfl ?_
          refine g_sipush hX (pc := 28) (v := 371) dX5_goes_28 (by decide) ?_
          refine g_sipush hX (pc := 31) (v := 370) dX5_goes_31 (by decide) ?_
          refine g_iconst hX (pc := 34) (v := 0) dX5_goes_34 (by decide) ?_
          obtain ⟨r8, e_r8, h⟩ := bnd h
          refine g_callVv hX (pc := 35) (d := d + 2) hr0 [.int 371, .int 370, .int 0] (c := 5) (ct_X5_drops (d := d + 2) ho0 e_r8) ho0.1.1 ho0.1.2 (by decide) rfl co_X5_drops ml_X5_303 im_X5_drops sl_X5_drops ini_X5 nm_X5_drops (by decide) ⟨Nat.le_refl _, Nat.le_refl _⟩ (Nat.le_refl _) (Nat.le_of_ble_eq_true rfl) rfl dX5_goes_35 ?_
          refine g_iinc hX (pc := 38) (i := 2) (v := s1 + 1) (ls' := [(0, .ref o0), (1, .int x1), (2, .int (s1 + 1)), (3, .int v7)]) 2 [1, 2, 0, 3] dX5_goes_38 rfl (by rfl) (by decide) rfl ?_
          refine g_aload_n hX (pc := 41) (i := 0) dX5_goes_41 rfl 0 rfl ?_
          refine g_iload_n hX (pc := 42) (i := 3) dX5_goes_42 rfl 3 rfl ?_
          refine g_bipush hX (pc := 43) (v := 10) dX5_goes_43 (by decide) ?_
          refine g_idiv hX (pc := 45) dX5_goes_45 (by decide) ?_
          obtain ⟨r9, e_r9, h⟩ := bnd h
          refine g_callVi hX (pc := 46) (d := d + 2) hr0 [.int (v7 / 10)] (c := 5) (ct_X5_canCome (d := d + 1) ho0 e_r9) ho0.1.1 ho0.1.2 (by decide) rfl co_X5_canCome ml_X5_300 im_X5_canCome sl_X5_canCome ini_X5 nm_X5_canCome (by decide) ⟨Nat.le_refl _, Nat.le_refl _⟩ (Nat.le_refl _) (Nat.le_of_ble_eq_true rfl) rfl dX5_goes_46 ?_
          obtain ⟨p18, hpj11, h⟩ := bnd h
          have Kj11 : ∀ qj11 : MI, qj11 = p18 → GW E X (QX E X 0 0 (some (.int rr)) z J Iz) 4 101 [(0, .ref o0), (1, .int x1), (2, .int (s1 + 1)), (3, .int v7)] [] z J qj11 0 0 := by
            intro qj11 hqj11
            subst hqj11
            refine g_goto hX (pc := 101) (tgt := 2) dX5_goes_101 (by decide) ?_
            refine g_sub (ls' := [(0, .ref o0), (1, .int x1), (2, .int (s1 + 1))]) [0, 1, 2] rfl ?_
            obtain rfl := Option.some.inj h
            exact ihl3 (s1 + 1) qj11 hwl3
          replace h := hpj11
          clear hpj11
          refine g_if_eq hX (pc := 49) dX5_goes_49 (tgt := 71) (by decide) (fun c10 => ?_) (fun c10 => ?_)
          · replace h := ifP c10 h
            refine g_aload_n hX (pc := 71) (i := 0) dX5_goes_71 rfl 0 rfl ?_
            refine gf5_27 hX (pc := 72) ho0 fl_X5_48 dX5_goes_72 ?_
            refine g_sipush hX (pc := 75) (v := 1236) dX5_goes_75 (by decide) ?_
            refine g_aload_n hX (pc := 78) (i := 0) dX5_goes_78 rfl 0 rfl ?_
            refine gf5_27 hX (pc := 79) ho0 fl_X5_48 dX5_goes_79 ?_
            refine g_sipush hX (pc := 82) (v := 1235) dX5_goes_82 (by decide) ?_
            obtain ⟨v12, e_v12, h⟩ := bnd h
            refine g_ialoadE hX (pc := 85) (s5_27 ho0).1 (s5_27 ho0).2.1 (s5_27 ho0).2.2.1 e_v12 dX5_goes_85 ?_
            refine g_iadd hX (pc := 86) dX5_goes_86 ?_
            refine g_iload_n hX (pc := 87) (i := 3) dX5_goes_87 rfl 3 rfl ?_
            obtain ⟨I13, e_I13, h⟩ := bnd h
            refine g_iastoreE hX (pc := 88) (s5_27 ho0).1 (s5_27 ho0).2.1 (s5_27 ho0).2.2.1 e_I13 dX5_goes_88 ?_
            refine g_aload_n hX (pc := 89) (i := 0) dX5_goes_89 rfl 0 rfl ?_
            refine gf5_27 hX (pc := 90) ho0 fl_X5_48 dX5_goes_90 ?_
            refine g_sipush hX (pc := 93) (v := 1235) dX5_goes_93 (by decide) ?_
            refine g_dup2 hX (pc := 96) dX5_goes_96 rfl rfl ?_
            obtain ⟨v14, e_v14, h⟩ := bnd h
            refine g_ialoadE hX (pc := 97) (s5_27 ho0).1 (s5_27 ho0).2.1 (s5_27 ho0).2.2.1 e_v14 dX5_goes_97 ?_
            refine g_iconst hX (pc := 98) (v := 1) dX5_goes_98 (by decide) ?_
            refine g_iadd hX (pc := 99) dX5_goes_99 ?_
            obtain ⟨I15, e_I15, h⟩ := bnd h
            refine g_iastoreE hX (pc := 100) (s5_27 ho0).1 (s5_27 ho0).2.1 (s5_27 ho0).2.2.1 e_I15 dX5_goes_100 ?_
            exact Kj11 I15 (Option.some.inj h)
          · replace h := ifN c10 h
            refine g_aload_n hX (pc := 52) (i := 0) dX5_goes_52 rfl 0 rfl ?_
            refine g_iload_n hX (pc := 53) (i := 3) dX5_goes_53 rfl 3 rfl ?_
            refine g_bipush hX (pc := 54) (v := 10) dX5_goes_54 (by decide) ?_
            refine g_idiv hX (pc := 56) dX5_goes_56 (by decide) ?_
            refine g_iload_n hX (pc := 57) (i := 3) dX5_goes_57 rfl 3 rfl ?_
            refine g_bipush hX (pc := 58) (v := 10) dX5_goes_58 (by decide) ?_
            refine g_irem hX (pc := 60) dX5_goes_60 (by decide) ?_
            obtain ⟨r16, e_r16, h⟩ := bnd h
            refine g_callVv hX (pc := 61) (d := d + 2) hr0 [.int (v7 / 10), .int (v7 - v7 / 10 * 10)] (c := 5) (ct_X5_comes (d := d + 1) ho0 e_r16) ho0.1.1 ho0.1.2 (by decide) rfl co_X5_comes ml_X5_307 im_X5_comes sl_X5_comes ini_X5 nm_X5_comes (by decide) ⟨Nat.le_refl _, Nat.le_refl _⟩ (Nat.le_refl _) (Nat.le_of_ble_eq_true rfl) rfl dX5_goes_61 ?_
            refine g_aload_n hX (pc := 64) (i := 0) dX5_goes_64 rfl 0 rfl ?_
            obtain ⟨r17, e_r17, h⟩ := bnd h
            refine g_callVv hX (pc := 65) (d := d + 2) hr0 [] (c := 5) (ct_X5_settles (d := d + 0) ho0 e_r17) ho0.1.1 ho0.1.2 (by decide) rfl co_X5_settles ml_X5_310 im_X5_settles sl_X5_settles ini_X5 nm_X5_settles (by decide) ⟨Nat.le_refl _, Nat.le_refl _⟩ (Nat.le_refl _) (Nat.le_of_ble_eq_true rfl) rfl dX5_goes_65 ?_
            refine g_goto hX (pc := 68) (tgt := 101) dX5_goes_68 (by decide) ?_
            exact Kj11 r17 (Option.some.inj h)
        · replace h := ifN c6 h
          obtain rfl := Option.some.inj h
          exact Kl3 ((s1, I2)) hwl3
      · replace h := ifN c4 h
        obtain rfl := Option.some.inj h
        exact Kl3 ((s1, I2)) hwl3
  exact Ll3 kl3 0 I hkl3
noncomputable def f_X5_step (o0 : Nat) (x1 : Int32) (J : MJ) (I : MI) : Option (Int32 × MI) :=
  (wf I o0 0 0).bind fun I1 =>
  (f_X5_within x1.toInt64 1 200).bind fun r2 =>
  if r2 = 0 then
    some (((-1), I1))
  else
    (rd 2117 (I1 (o0 + 13)) 370).bind fun v4 =>
    if v4 = 0 then
      some (((-1), I1))
    else
      (f_X5_keeps o0 J I1).bind fun r6 =>
      (f_X5_goes o0 x1 J r6).bind fun r7 =>
      some ((r7.1, r7.2))
theorem nm_X5_step : yX5_step.cls ≠ "java/lang/invoke/MethodHandle" ∧ yX5_step.cls ≠ "java/lang/invoke/VarHandle" ∧ (parseMethodDescriptor yX5_step.desc).map (fun d => d.parameters.length) = some 1 := by decide +kernel
set_option maxRecDepth 100000 in
set_option maxHeartbeats 4000000 in
theorem ct_X5_step {E : Ev} {d : Nat} {z : Sh} {J : MJ} {I : MI} {o0 : Nat} {x1 : Int32} {rr : Int32} {Iz : MI} (ho0 : oX5 z o0) (h : f_X5_step o0 x1 J I = some ((rr, Iz))) : Ct E (d + 4) yX5_step cX5_step 2 (some .int) 0 0 [.ref o0, .int x1] z J I (some (.int rr)) z J Iz := by
  unfold f_X5_step at h
  refine Ct.of (own := RX5) (ls := [(0, .ref o0), (1, .int x1)]) (by decide) rfl (Nat.le_of_ble_eq_true rfl) rfl ?_
  intro X hr0 hnm hX
  refine g_aload_n hX (pc := 0) (i := 0) dX5_step_0 rfl 0 rfl ?_
  refine g_iconst hX (pc := 1) (v := 0) dX5_step_1 (by decide) ?_
  obtain ⟨I1, e_I1, h⟩ := bnd h
  refine pf5_0 hX (pc := 2) ho0 fl_X5_86 dX5_step_2 e_I1 ?_
  refine g_iload_n hX (pc := 5) (i := 1) dX5_step_5 rfl 1 rfl ?_
  refine g_i2l hX (pc := 6) dX5_step_6 ?_
  refine g_lconst hX (pc := 7) (v := 1) dX5_step_7 (by decide) ?_
  refine g_ldc2 hX (pc := 8) cst_X5_313 dX5_step_8 ?_
  obtain ⟨r2, e_r2, h⟩ := bnd h
  refine g_callSi hX (pc := 11) (d := d + 3) hr0 [.long x1.toInt64, .long 1, .long 200] (ct_X5_within (d := d + 3)  e_r2) co_X5_within ml_X5_123 sta_X5_within ini_X5 nm_X5_within (by decide) ⟨Nat.le_refl _, Nat.le_refl _⟩ (Nat.le_refl _) (Nat.le_of_ble_eq_true rfl) rfl dX5_step_11 ?_
  refine g_if_eq hX (pc := 14) dX5_step_14 (tgt := 28) (by decide) (fun c3 => ?_) (fun c3 => ?_)
  · replace h := ifP c3 h
    refine g_iconst hX (pc := 28) (v := (-1)) dX5_step_28 (by decide) ?_
    replace h := Option.some.inj h
    obtain ⟨rfl, rfl⟩ := Prod.mk.inj h
    exact g_ireturn hX (Nat.le_refl _) (Nat.le_refl _) dX5_step_29
  · replace h := ifN c3 h
    refine g_aload_n hX (pc := 17) (i := 0) dX5_step_17 rfl 0 rfl ?_
    refine gf5_27 hX (pc := 18) ho0 fl_X5_48 dX5_step_18 ?_
    refine g_sipush hX (pc := 21) (v := 370) dX5_step_21 (by decide) ?_
    obtain ⟨v4, e_v4, h⟩ := bnd h
    refine g_ialoadE hX (pc := 24) (s5_27 ho0).1 (s5_27 ho0).2.1 (s5_27 ho0).2.2.1 e_v4 dX5_step_24 ?_
    refine g_if_ne hX (pc := 25) dX5_step_25 (tgt := 30) (by decide) (fun c5 => ?_) (fun c5 => ?_)
    · replace h := ifP c5 h
      refine g_iconst hX (pc := 28) (v := (-1)) dX5_step_28 (by decide) ?_
      replace h := Option.some.inj h
      obtain ⟨rfl, rfl⟩ := Prod.mk.inj h
      exact g_ireturn hX (Nat.le_refl _) (Nat.le_refl _) dX5_step_29
    · replace h := ifN c5 h
      refine g_aload_n hX (pc := 30) (i := 0) dX5_step_30 rfl 0 rfl ?_
      obtain ⟨r6, e_r6, h⟩ := bnd h
      refine g_callVv hX (pc := 31) (d := d + 3) hr0 [] (c := 5) (ct_X5_keeps (d := d + 3) ho0 e_r6) ho0.1.1 ho0.1.2 (by decide) rfl co_X5_keeps ml_X5_284 im_X5_keeps sl_X5_keeps ini_X5 nm_X5_keeps (by decide) ⟨Nat.le_refl _, Nat.le_refl _⟩ (Nat.le_refl _) (Nat.le_of_ble_eq_true rfl) rfl dX5_step_31 ?_
      refine g_aload_n hX (pc := 34) (i := 0) dX5_step_34 rfl 0 rfl ?_
      refine g_iload_n hX (pc := 35) (i := 1) dX5_step_35 rfl 1 rfl ?_
      obtain ⟨r7, e_r7, h⟩ := bnd h
      refine g_callVi hX (pc := 36) (d := d + 3) hr0 [.int x1] (c := 5) (ct_X5_goes (d := d + 0) ho0 e_r7) ho0.1.1 ho0.1.2 (by decide) rfl co_X5_goes ml_X5_315 im_X5_goes sl_X5_goes ini_X5 nm_X5_goes (by decide) ⟨Nat.le_refl _, Nat.le_refl _⟩ (Nat.le_refl _) (Nat.le_of_ble_eq_true rfl) rfl dX5_step_36 ?_
      replace h := Option.some.inj h
      obtain ⟨rfl, rfl⟩ := Prod.mk.inj h
      exact g_ireturn hX (Nat.le_refl _) (Nat.le_refl _) dX5_step_39
noncomputable def b_X5_stock_91 (o0 : Nat) (x1 : Int32) (J : MJ) (s16 : Int32) (s : Int32 × MI) : Option ((Int32 × MI) ⊕ (Int32 × MI)) :=
  (rd 2117 (s.2 (o0 + 13)) x1).bind fun v23 =>
  if 0 < v23 then
    (rd 2117 (s.2 (o0 + 13)) ((170 + (10 * s16)) + x1)).bind fun v25 =>
    if 0 < v25 then
      (rd 2117 (s.2 (o0 + 13)) x1).bind fun v27 =>
      (wr 2117 s.2 (o0 + 13) x1 (v27 - 1)).bind fun I28 =>
      (rd 2117 (I28 (o0 + 13)) ((170 + (10 * s16)) + x1)).bind fun v29 =>
      (wr 2117 I28 (o0 + 13) ((170 + (10 * s16)) + x1) (v29 - 1)).bind fun I30 =>
      (f_X5_toBelt o0 s16 x1 J I30).bind fun r31 =>
      some (.inl ((s.1 + 1, r31)))
    else
      some (.inr ((s.1, s.2)))
  else
    some (.inr ((s.1, s.2)))
noncomputable def b_X5_stock_86 (o0 : Nat) (x1 : Int32) (J : MJ) (v13 : Int32) (s : Int32 × Int32 × MI) : Option ((Int32 × Int32 × MI) ⊕ (Int32 × Int32 × MI)) :=
  if s.2.1 < 0 then
    some (.inr ((s.1, s.2.1, s.2.2)))
  else
    (lp (b_X5_stock_91 o0 x1 J s.2.1) ((s.1, s.2.2))).bind fun p32 =>
    (f_X5_earliestBehind o0 (((1 : Int32) <<< (v13 &&& 31)) - 1) s.2.1 J p32.2).bind fun r33 =>
    some (.inl ((p32.1, r33, p32.2)))
noncomputable def f_X5_stock (o0 : Nat) (x1 : Int32) (x2 : Int32) (J : MJ) (I : MI) : Option (Int32 × MI) :=
  (wf I o0 0 0).bind fun I1 =>
  (f_X5_isItem o0 x1 J I1).bind fun r2 =>
  if r2 = 0 then
    some (((-1), I1))
  else
    (f_X5_within x2.toInt64 1 99).bind fun r4 =>
    if r4 = 0 then
      some (((-1), I1))
    else
      (f_X5_keeps o0 J I1).bind fun r6 =>
      (rd 2117 (r6 (o0 + 13)) x1).bind fun v7 =>
      (if 99 < (v7 + x2) then
        some 99
      else
        (rd 2117 (r6 (o0 + 13)) x1).bind fun v10 =>
        some (v10 + x2)).bind fun (p11 : Int32) =>
      (wr 2117 r6 (o0 + 13) x1 p11).bind fun I12 =>
      (rd 2 (I12 (o0 + 3)) 0).bind fun v13 =>
      (f_X5_earliestBehind o0 (((1 : Int32) <<< (v13 &&& 31)) - 1) ((-1)) J I12).bind fun r14 =>
      (lp (b_X5_stock_86 o0 x1 J v13) ((0, r14, I12))).bind fun p34 =>
      some ((p34.1, p34.2.2))
theorem nm_X5_stock : yX5_stock.cls ≠ "java/lang/invoke/MethodHandle" ∧ yX5_stock.cls ≠ "java/lang/invoke/VarHandle" ∧ (parseMethodDescriptor yX5_stock.desc).map (fun d => d.parameters.length) = some 2 := by decide +kernel
set_option maxRecDepth 100000 in
set_option maxHeartbeats 4000000 in
theorem ct_X5_stock {E : Ev} {d : Nat} {z : Sh} {J : MJ} {I : MI} {o0 : Nat} {x1 : Int32} {x2 : Int32} {rr : Int32} {Iz : MI} (ho0 : oX5 z o0) (h : f_X5_stock o0 x1 x2 J I = some ((rr, Iz))) : Ct E (d + 2) yX5_stock cX5_stock 6 (some .int) 0 0 [.ref o0, .int x1, .int x2] z J I (some (.int rr)) z J Iz := by
  unfold f_X5_stock at h
  refine Ct.of (own := RX5) (ls := [(0, .ref o0), (1, .int x1), (2, .int x2)]) (by decide) rfl (Nat.le_of_ble_eq_true rfl) rfl ?_
  intro X hr0 hnm hX
  refine g_aload_n hX (pc := 0) (i := 0) dX5_stock_0 rfl 0 rfl ?_
  refine g_iconst hX (pc := 1) (v := 0) dX5_stock_1 (by decide) ?_
  obtain ⟨I1, e_I1, h⟩ := bnd h
  refine pf5_0 hX (pc := 2) ho0 fl_X5_86 dX5_stock_2 e_I1 ?_
  refine g_aload_n hX (pc := 5) (i := 0) dX5_stock_5 rfl 0 rfl ?_
  refine g_iload_n hX (pc := 6) (i := 1) dX5_stock_6 rfl 1 rfl ?_
  obtain ⟨r2, e_r2, h⟩ := bnd h
  refine g_callVi hX (pc := 7) (d := d + 1) hr0 [.int x1] (c := 5) (ct_X5_isItem (d := d + 0) ho0 e_r2) ho0.1.1 ho0.1.2 (by decide) rfl co_X5_isItem ml_X5_225 im_X5_isItem sl_X5_isItem ini_X5 nm_X5_isItem (by decide) ⟨Nat.le_refl _, Nat.le_refl _⟩ (Nat.le_refl _) (Nat.le_of_ble_eq_true rfl) rfl dX5_stock_7 ?_
  refine g_if_eq hX (pc := 10) dX5_stock_10 (tgt := 25) (by decide) (fun c3 => ?_) (fun c3 => ?_)
  · replace h := ifP c3 h
    refine g_iconst hX (pc := 25) (v := (-1)) dX5_stock_25 (by decide) ?_
    replace h := Option.some.inj h
    obtain ⟨rfl, rfl⟩ := Prod.mk.inj h
    exact g_ireturn hX (Nat.le_refl _) (Nat.le_refl _) dX5_stock_26
  · replace h := ifN c3 h
    refine g_iload_n hX (pc := 13) (i := 2) dX5_stock_13 rfl 2 rfl ?_
    refine g_i2l hX (pc := 14) dX5_stock_14 ?_
    refine g_lconst hX (pc := 15) (v := 1) dX5_stock_15 (by decide) ?_
    refine g_ldc2 hX (pc := 16) cst_X5_318 dX5_stock_16 ?_
    obtain ⟨r4, e_r4, h⟩ := bnd h
    refine g_callSi hX (pc := 19) (d := d + 1) hr0 [.long x2.toInt64, .long 1, .long 99] (ct_X5_within (d := d + 1)  e_r4) co_X5_within ml_X5_123 sta_X5_within ini_X5 nm_X5_within (by decide) ⟨Nat.le_refl _, Nat.le_refl _⟩ (Nat.le_refl _) (Nat.le_of_ble_eq_true rfl) rfl dX5_stock_19 ?_
    refine g_if_ne hX (pc := 22) dX5_stock_22 (tgt := 27) (by decide) (fun c5 => ?_) (fun c5 => ?_)
    · replace h := ifP c5 h
      refine g_iconst hX (pc := 25) (v := (-1)) dX5_stock_25 (by decide) ?_
      replace h := Option.some.inj h
      obtain ⟨rfl, rfl⟩ := Prod.mk.inj h
      exact g_ireturn hX (Nat.le_refl _) (Nat.le_refl _) dX5_stock_26
    · replace h := ifN c5 h
      refine g_aload_n hX (pc := 27) (i := 0) dX5_stock_27 rfl 0 rfl ?_
      obtain ⟨r6, e_r6, h⟩ := bnd h
      refine g_callVv hX (pc := 28) (d := d + 1) hr0 [] (c := 5) (ct_X5_keeps (d := d + 1) ho0 e_r6) ho0.1.1 ho0.1.2 (by decide) rfl co_X5_keeps ml_X5_284 im_X5_keeps sl_X5_keeps ini_X5 nm_X5_keeps (by decide) ⟨Nat.le_refl _, Nat.le_refl _⟩ (Nat.le_refl _) (Nat.le_of_ble_eq_true rfl) rfl dX5_stock_28 ?_
      refine g_aload_n hX (pc := 31) (i := 0) dX5_stock_31 rfl 0 rfl ?_
      refine gf5_27 hX (pc := 32) ho0 fl_X5_48 dX5_stock_32 ?_
      refine g_iload_n hX (pc := 35) (i := 1) dX5_stock_35 rfl 1 rfl ?_
      refine g_aload_n hX (pc := 36) (i := 0) dX5_stock_36 rfl 0 rfl ?_
      refine gf5_27 hX (pc := 37) ho0 fl_X5_48 dX5_stock_37 ?_
      refine g_iload_n hX (pc := 40) (i := 1) dX5_stock_40 rfl 1 rfl ?_
      obtain ⟨v7, e_v7, h⟩ := bnd h
      refine g_ialoadE hX (pc := 41) (s5_27 ho0).1 (s5_27 ho0).2.1 (s5_27 ho0).2.2.1 e_v7 dX5_stock_41 ?_
      refine g_iload_n hX (pc := 42) (i := 2) dX5_stock_42 rfl 2 rfl ?_
      refine g_iadd hX (pc := 43) dX5_stock_43 ?_
      refine g_bipush hX (pc := 44) (v := 99) dX5_stock_44 (by decide) ?_
      obtain ⟨p11, hpj9, h⟩ := bnd h
      have Kj9 : ∀ qj9 : Int32, qj9 = p11 → GW E X (QX E X 0 0 (some (.int rr)) z J Iz) 6 62 [(0, .ref o0), (1, .int x1), (2, .int x2)] [.int qj9, .int x1, .ref (o0 + 13)] z J r6 0 0 := by
        intro qj9 hqj9
        subst hqj9
        obtain ⟨I12, e_I12, h⟩ := bnd h
        refine g_iastoreE hX (pc := 62) (s5_27 ho0).1 (s5_27 ho0).2.1 (s5_27 ho0).2.2.1 e_I12 dX5_stock_62 ?_
        refine g_iconst hX (pc := 63) (v := 0) dX5_stock_63 (by decide) ?_
        refine g_istore_n hX (pc := 64) (i := 3) (ls' := [(0, .ref o0), (1, .int x1), (2, .int x2), (3, .int 0)]) [1, 2, 3, 0] dX5_stock_64 rfl (by decide) rfl ?_
        refine g_iconst hX (pc := 65) (v := 1) dX5_stock_65 (by decide) ?_
        refine g_aload_n hX (pc := 66) (i := 0) dX5_stock_66 rfl 0 rfl ?_
        refine gf5_14 hX (pc := 67) ho0 fl_X5_17 dX5_stock_67 ?_
        refine g_iconst hX (pc := 70) (v := 0) dX5_stock_70 (by decide) ?_
        obtain ⟨v13, e_v13, h⟩ := bnd h
        refine g_ialoadE hX (pc := 71) (s5_14 ho0).1 (s5_14 ho0).2.1 (s5_14 ho0).2.2.1 e_v13 dX5_stock_71 ?_
        refine g_ishl hX (pc := 72) dX5_stock_72 ?_
        refine g_iconst hX (pc := 73) (v := 1) dX5_stock_73 (by decide) ?_
        refine g_isub hX (pc := 74) dX5_stock_74 ?_
        refine g_istore hX (pc := 75) (ls' := [(0, .ref o0), (1, .int x1), (2, .int x2), (3, .int 0), (4, .int (((1 : Int32) <<< (v13 &&& 31)) - 1))]) [1, 2, 3, 4, 0] dX5_stock_75 (by decide) rfl ?_
        refine g_aload_n hX (pc := 77) (i := 0) dX5_stock_77 rfl 0 rfl ?_
        refine g_iload hX (pc := 78) dX5_stock_78 4 rfl ?_
        refine g_iconst hX (pc := 80) (v := (-1)) dX5_stock_80 (by decide) ?_
        obtain ⟨r14, e_r14, h⟩ := bnd h
        refine g_callVi hX (pc := 81) (d := d + 1) hr0 [.int (((1 : Int32) <<< (v13 &&& 31)) - 1), .int ((-1))] (c := 5) (ct_X5_earliestBehind (d := d + 0) ho0 e_r14) ho0.1.1 ho0.1.2 (by decide) rfl co_X5_earliestBehind ml_X5_287 im_X5_earliestBehind sl_X5_earliestBehind ini_X5 nm_X5_earliestBehind (by decide) ⟨Nat.le_refl _, Nat.le_refl _⟩ (Nat.le_refl _) (Nat.le_of_ble_eq_true rfl) rfl dX5_stock_81 ?_
        refine g_istore hX (pc := 84) (ls' := [(0, .ref o0), (1, .int x1), (2, .int x2), (3, .int 0), (4, .int (((1 : Int32) <<< (v13 &&& 31)) - 1)), (5, .int r14)]) [1, 2, 3, 4, 5, 0] dX5_stock_84 (by decide) rfl ?_
        obtain ⟨p34, hpl18, h⟩ := bnd h
        have Kl18 : ∀ ql18 : Int32 × Int32 × MI, ql18 = p34 → GW E X (QX E X 0 0 (some (.int rr)) z J Iz) 6 175 [(0, .ref o0), (1, .int x1), (2, .int x2), (3, .int ql18.1), (4, .int (((1 : Int32) <<< (v13 &&& 31)) - 1)), (5, .int ql18.2.1)] [] z J ql18.2.2 0 0 := by
          intro ql18 hql18
          subst hql18
          refine g_iload_n hX (pc := 175) (i := 3) dX5_stock_175 rfl 3 rfl ?_
          replace h := Option.some.inj h
          obtain ⟨rfl, rfl⟩ := Prod.mk.inj h
          exact g_ireturn hX (Nat.le_refl _) (Nat.le_refl _) dX5_stock_176
        obtain ⟨kl18, hkl18⟩ := lp_ex hpl18
        clear hpl18 h
        have Ll18 : ∀ k : Nat, ∀ (s15 : Int32) (s16 : Int32) (I17 : MI), lpN k (b_X5_stock_86 o0 x1 J v13) ((s15, s16, I17)) = some p34 → GW E X (QX E X 0 0 (some (.int rr)) z J Iz) 6 86 [(0, .ref o0), (1, .int x1), (2, .int x2), (3, .int s15), (4, .int (((1 : Int32) <<< (v13 &&& 31)) - 1)), (5, .int s16)] [] z J I17 0 0 := by
          intro k
          induction k with
          | zero => intro s15 s16 I17 h; cases h
          | succ k ihl18 =>
            intro s15 s16 I17 h
            obtain ⟨wl18, h, hwl18⟩ := lpN_s h
            unfold b_X5_stock_86 at h
            try dsimp only at h
            refine g_iload hX (pc := 86) dX5_stock_86 5 rfl ?_
            refine g_if_lt hX (pc := 88) dX5_stock_88 (tgt := 175) (by decide) (fun c19 => ?_) (fun c19 => ?_)
            · replace h := ifP c19 h
              obtain rfl := Option.some.inj h
              exact Kl18 ((s15, s16, I17)) hwl18
            · replace h := ifN c19 h
              obtain ⟨p32, hpl22, h⟩ := bnd h
              have Kl22 : ∀ ql22 : Int32 × MI, ql22 = p32 → GW E X (QX E X 0 0 (some (.int rr)) z J Iz) 6 162 [(0, .ref o0), (1, .int x1), (2, .int x2), (3, .int ql22.1), (4, .int (((1 : Int32) <<< (v13 &&& 31)) - 1)), (5, .int s16)] [] z J ql22.2 0 0 := by
                intro ql22 hql22
                subst hql22
                refine g_aload_n hX (pc := 162) (i := 0) dX5_stock_162 rfl 0 rfl ?_
                refine g_iload hX (pc := 163) dX5_stock_163 4 rfl ?_
                refine g_iload hX (pc := 165) dX5_stock_165 5 rfl ?_
                obtain ⟨r33, e_r33, h⟩ := bnd h
                refine g_callVi hX (pc := 167) (d := d + 1) hr0 [.int (((1 : Int32) <<< (v13 &&& 31)) - 1), .int s16] (c := 5) (ct_X5_earliestBehind (d := d + 0) ho0 e_r33) ho0.1.1 ho0.1.2 (by decide) rfl co_X5_earliestBehind ml_X5_287 im_X5_earliestBehind sl_X5_earliestBehind ini_X5 nm_X5_earliestBehind (by decide) ⟨Nat.le_refl _, Nat.le_refl _⟩ (Nat.le_refl _) (Nat.le_of_ble_eq_true rfl) rfl dX5_stock_167 ?_
                refine g_istore hX (pc := 170) (ls' := [(0, .ref o0), (1, .int x1), (2, .int x2), (3, .int ql22.1), (4, .int (((1 : Int32) <<< (v13 &&& 31)) - 1)), (5, .int r33)]) [1, 2, 3, 4, 5, 0] dX5_stock_170 (by decide) rfl ?_
                refine g_goto hX (pc := 172) (tgt := 86) dX5_stock_172 (by decide) ?_
                obtain rfl := Option.some.inj h
                exact ihl18 ql22.1 r33 ql22.2 hwl18
              obtain ⟨kl22, hkl22⟩ := lp_ex hpl22
              clear hpl22 h
              have Ll22 : ∀ k : Nat, ∀ (s20 : Int32) (I21 : MI), lpN k (b_X5_stock_91 o0 x1 J s16) ((s20, I21)) = some p32 → GW E X (QX E X 0 0 (some (.int rr)) z J Iz) 6 91 [(0, .ref o0), (1, .int x1), (2, .int x2), (3, .int s20), (4, .int (((1 : Int32) <<< (v13 &&& 31)) - 1)), (5, .int s16)] [] z J I21 0 0 := by
                intro k
                induction k with
                | zero => intro s20 I21 h; cases h
                | succ k ihl22 =>
                  intro s20 I21 h
                  obtain ⟨wl22, h, hwl22⟩ := lpN_s h
                  unfold b_X5_stock_91 at h
                  try dsimp only at h
                  refine g_aload_n hX (pc := 91) (i := 0) dX5_stock_91 rfl 0 rfl ?_
                  refine gf5_27 hX (pc := 92) ho0 fl_X5_48 dX5_stock_92 ?_
                  refine g_iload_n hX (pc := 95) (i := 1) dX5_stock_95 rfl 1 rfl ?_
                  obtain ⟨v23, e_v23, h⟩ := bnd h
                  refine g_ialoadE hX (pc := 96) (s5_27 ho0).1 (s5_27 ho0).2.1 (s5_27 ho0).2.2.1 e_v23 dX5_stock_96 ?_
                  refine g_if_le hX (pc := 97) dX5_stock_97 (tgt := 162) (by decide) (fun c24 => ?_) (fun c24 => ?_)
                  · replace h := ifP c24 h
                    refine g_aload_n hX (pc := 100) (i := 0) dX5_stock_100 rfl 0 rfl ?_
                    refine gf5_27 hX (pc := 101) ho0 fl_X5_48 dX5_stock_101 ?_
                    refine g_sipush hX (pc := 104) (v := 170) dX5_stock_104 (by decide) ?_
                    refine g_bipush hX (pc := 107) (v := 10) dX5_stock_107 (by decide) ?_
                    refine g_iload hX (pc := 109) dX5_stock_109 5 rfl ?_
                    refine g_imul hX (pc := 111) dX5_stock_111 ?_
                    refine g_iadd hX (pc := 112) dX5_stock_112 ?_
                    refine g_iload_n hX (pc := 113) (i := 1) dX5_stock_113 rfl 1 rfl ?_
                    refine g_iadd hX (pc := 114) dX5_stock_114 ?_
                    obtain ⟨v25, e_v25, h⟩ := bnd h
                    refine g_ialoadE hX (pc := 115) (s5_27 ho0).1 (s5_27 ho0).2.1 (s5_27 ho0).2.2.1 e_v25 dX5_stock_115 ?_
                    refine g_if_le hX (pc := 116) dX5_stock_116 (tgt := 162) (by decide) (fun c26 => ?_) (fun c26 => ?_)
                    · replace h := ifP c26 h
                      refine g_aload_n hX (pc := 119) (i := 0) dX5_stock_119 rfl 0 rfl ?_
                      refine gf5_27 hX (pc := 120) ho0 fl_X5_48 dX5_stock_120 ?_
                      refine g_iload_n hX (pc := 123) (i := 1) dX5_stock_123 rfl 1 rfl ?_
                      refine g_dup2 hX (pc := 124) dX5_stock_124 rfl rfl ?_
                      obtain ⟨v27, e_v27, h⟩ := bnd h
                      refine g_ialoadE hX (pc := 125) (s5_27 ho0).1 (s5_27 ho0).2.1 (s5_27 ho0).2.2.1 e_v27 dX5_stock_125 ?_
                      refine g_iconst hX (pc := 126) (v := 1) dX5_stock_126 (by decide) ?_
                      refine g_isub hX (pc := 127) dX5_stock_127 ?_
                      obtain ⟨I28, e_I28, h⟩ := bnd h
                      refine g_iastoreE hX (pc := 128) (s5_27 ho0).1 (s5_27 ho0).2.1 (s5_27 ho0).2.2.1 e_I28 dX5_stock_128 ?_
                      refine g_aload_n hX (pc := 129) (i := 0) dX5_stock_129 rfl 0 rfl ?_
                      refine gf5_27 hX (pc := 130) ho0 fl_X5_48 dX5_stock_130 ?_
                      refine g_sipush hX (pc := 133) (v := 170) dX5_stock_133 (by decide) ?_
                      refine g_bipush hX (pc := 136) (v := 10) dX5_stock_136 (by decide) ?_
                      refine g_iload hX (pc := 138) dX5_stock_138 5 rfl ?_
                      refine g_imul hX (pc := 140) dX5_stock_140 ?_
                      refine g_iadd hX (pc := 141) dX5_stock_141 ?_
                      refine g_iload_n hX (pc := 142) (i := 1) dX5_stock_142 rfl 1 rfl ?_
                      refine g_iadd hX (pc := 143) dX5_stock_143 ?_
                      refine g_dup2 hX (pc := 144) dX5_stock_144 rfl rfl ?_
                      obtain ⟨v29, e_v29, h⟩ := bnd h
                      refine g_ialoadE hX (pc := 145) (s5_27 ho0).1 (s5_27 ho0).2.1 (s5_27 ho0).2.2.1 e_v29 dX5_stock_145 ?_
                      refine g_iconst hX (pc := 146) (v := 1) dX5_stock_146 (by decide) ?_
                      refine g_isub hX (pc := 147) dX5_stock_147 ?_
                      obtain ⟨I30, e_I30, h⟩ := bnd h
                      refine g_iastoreE hX (pc := 148) (s5_27 ho0).1 (s5_27 ho0).2.1 (s5_27 ho0).2.2.1 e_I30 dX5_stock_148 ?_
                      refine g_aload_n hX (pc := 149) (i := 0) dX5_stock_149 rfl 0 rfl ?_
                      refine g_iload hX (pc := 150) dX5_stock_150 5 rfl ?_
                      refine g_iload_n hX (pc := 152) (i := 1) dX5_stock_152 rfl 1 rfl ?_
                      obtain ⟨r31, e_r31, h⟩ := bnd h
                      refine g_callVv hX (pc := 153) (d := d + 1) hr0 [.int s16, .int x1] (c := 5) (ct_X5_toBelt (d := d + 1) ho0 e_r31) ho0.1.1 ho0.1.2 (by decide) rfl co_X5_toBelt ml_X5_290 im_X5_toBelt sl_X5_toBelt ini_X5 nm_X5_toBelt (by decide) ⟨Nat.le_refl _, Nat.le_refl _⟩ (Nat.le_refl _) (Nat.le_of_ble_eq_true rfl) rfl dX5_stock_153 ?_
                      refine g_iinc hX (pc := 156) (i := 3) (v := s20 + 1) (ls' := [(0, .ref o0), (1, .int x1), (2, .int x2), (3, .int (s20 + 1)), (4, .int (((1 : Int32) <<< (v13 &&& 31)) - 1)), (5, .int s16)]) 3 [1, 2, 3, 0, 4, 5] dX5_stock_156 rfl (by rfl) (by decide) rfl ?_
                      refine g_goto hX (pc := 159) (tgt := 91) dX5_stock_159 (by decide) ?_
                      obtain rfl := Option.some.inj h
                      exact ihl22 (s20 + 1) r31 hwl22
                    · replace h := ifN c26 h
                      obtain rfl := Option.some.inj h
                      exact Kl22 ((s20, I21)) hwl22
                  · replace h := ifN c24 h
                    obtain rfl := Option.some.inj h
                    exact Kl22 ((s20, I21)) hwl22
              exact Ll22 kl22 s15 I17 hkl22
        exact Ll18 kl18 0 r14 I12 hkl18
      replace h := hpj9
      clear hpj9
      refine g_icmp_le hX (pc := 46) dX5_stock_46 (tgt := 54) (by decide) (fun c8 => ?_) (fun c8 => ?_)
      · replace h := ifP c8 h
        refine g_bipush hX (pc := 49) (v := 99) dX5_stock_49 (by decide) ?_
        refine g_goto hX (pc := 51) (tgt := 62) dX5_stock_51 (by decide) ?_
        exact Kj9 99 (Option.some.inj h)
      · replace h := ifN c8 h
        refine g_aload_n hX (pc := 54) (i := 0) dX5_stock_54 rfl 0 rfl ?_
        refine gf5_27 hX (pc := 55) ho0 fl_X5_48 dX5_stock_55 ?_
        refine g_iload_n hX (pc := 58) (i := 1) dX5_stock_58 rfl 1 rfl ?_
        obtain ⟨v10, e_v10, h⟩ := bnd h
        refine g_ialoadE hX (pc := 59) (s5_27 ho0).1 (s5_27 ho0).2.1 (s5_27 ho0).2.2.1 e_v10 dX5_stock_59 ?_
        refine g_iload_n hX (pc := 60) (i := 2) dX5_stock_60 rfl 2 rfl ?_
        refine g_iadd hX (pc := 61) dX5_stock_61 ?_
        exact Kj9 (v10 + x2) (Option.some.inj h)
noncomputable def f_X5_by (o0 : Nat) (x1 : Int32) (J : MJ) (I : MI) : Option (Int32 × MI) :=
  (wf I o0 0 0).bind fun I1 =>
  (f_X5_isOrder o0 x1 J I1).bind fun r2 =>
  if r2 = 0 then
    some (((-1), I1))
  else
    (rd 2117 (I1 (o0 + 13)) (346 + x1)).bind fun v4 =>
    if v4 < 0 then
      some (((-1), I1))
    else
      (f_X5_keeps o0 J I1).bind fun r6 =>
      (rd 2117 (r6 (o0 + 13)) (346 + x1)).bind fun v7 =>
      (f_X5_freesHole o0 x1 J r6).bind fun r8 =>
      (wr 2117 r8 (o0 + 13) (330 + x1) 3).bind fun I9 =>
      (f_X5_settles o0 J I9).bind fun r10 =>
      some ((v7, r10))
theorem nm_X5_by : yX5_by.cls ≠ "java/lang/invoke/MethodHandle" ∧ yX5_by.cls ≠ "java/lang/invoke/VarHandle" ∧ (parseMethodDescriptor yX5_by.desc).map (fun d => d.parameters.length) = some 1 := by decide +kernel
set_option maxRecDepth 100000 in
set_option maxHeartbeats 4000000 in
theorem ct_X5_by {E : Ev} {d : Nat} {z : Sh} {J : MJ} {I : MI} {o0 : Nat} {x1 : Int32} {rr : Int32} {Iz : MI} (ho0 : oX5 z o0) (h : f_X5_by o0 x1 J I = some ((rr, Iz))) : Ct E (d + 3) yX5_by cX5_by 3 (some .int) 0 0 [.ref o0, .int x1] z J I (some (.int rr)) z J Iz := by
  unfold f_X5_by at h
  refine Ct.of (own := RX5) (ls := [(0, .ref o0), (1, .int x1)]) (by decide) rfl (Nat.le_of_ble_eq_true rfl) rfl ?_
  intro X hr0 hnm hX
  refine g_aload_n hX (pc := 0) (i := 0) dX5_by_0 rfl 0 rfl ?_
  refine g_iconst hX (pc := 1) (v := 0) dX5_by_1 (by decide) ?_
  obtain ⟨I1, e_I1, h⟩ := bnd h
  refine pf5_0 hX (pc := 2) ho0 fl_X5_86 dX5_by_2 e_I1 ?_
  refine g_aload_n hX (pc := 5) (i := 0) dX5_by_5 rfl 0 rfl ?_
  refine g_iload_n hX (pc := 6) (i := 1) dX5_by_6 rfl 1 rfl ?_
  obtain ⟨r2, e_r2, h⟩ := bnd h
  refine g_callVi hX (pc := 7) (d := d + 2) hr0 [.int x1] (c := 5) (ct_X5_isOrder (d := d + 1) ho0 e_r2) ho0.1.1 ho0.1.2 (by decide) rfl co_X5_isOrder ml_X5_232 im_X5_isOrder sl_X5_isOrder ini_X5 nm_X5_isOrder (by decide) ⟨Nat.le_refl _, Nat.le_refl _⟩ (Nat.le_refl _) (Nat.le_of_ble_eq_true rfl) rfl dX5_by_7 ?_
  refine g_if_eq hX (pc := 10) dX5_by_10 (tgt := 26) (by decide) (fun c3 => ?_) (fun c3 => ?_)
  · replace h := ifP c3 h
    refine g_iconst hX (pc := 26) (v := (-1)) dX5_by_26 (by decide) ?_
    replace h := Option.some.inj h
    obtain ⟨rfl, rfl⟩ := Prod.mk.inj h
    exact g_ireturn hX (Nat.le_refl _) (Nat.le_refl _) dX5_by_27
  · replace h := ifN c3 h
    refine g_aload_n hX (pc := 13) (i := 0) dX5_by_13 rfl 0 rfl ?_
    refine gf5_27 hX (pc := 14) ho0 fl_X5_48 dX5_by_14 ?_
    refine g_sipush hX (pc := 17) (v := 346) dX5_by_17 (by decide) ?_
    refine g_iload_n hX (pc := 20) (i := 1) dX5_by_20 rfl 1 rfl ?_
    refine g_iadd hX (pc := 21) dX5_by_21 ?_
    obtain ⟨v4, e_v4, h⟩ := bnd h
    refine g_ialoadE hX (pc := 22) (s5_27 ho0).1 (s5_27 ho0).2.1 (s5_27 ho0).2.2.1 e_v4 dX5_by_22 ?_
    refine g_if_ge hX (pc := 23) dX5_by_23 (tgt := 28) (by decide) (fun c5 => ?_) (fun c5 => ?_)
    · replace h := ifP c5 h
      refine g_iconst hX (pc := 26) (v := (-1)) dX5_by_26 (by decide) ?_
      replace h := Option.some.inj h
      obtain ⟨rfl, rfl⟩ := Prod.mk.inj h
      exact g_ireturn hX (Nat.le_refl _) (Nat.le_refl _) dX5_by_27
    · replace h := ifN c5 h
      refine g_aload_n hX (pc := 28) (i := 0) dX5_by_28 rfl 0 rfl ?_
      obtain ⟨r6, e_r6, h⟩ := bnd h
      refine g_callVv hX (pc := 29) (d := d + 2) hr0 [] (c := 5) (ct_X5_keeps (d := d + 2) ho0 e_r6) ho0.1.1 ho0.1.2 (by decide) rfl co_X5_keeps ml_X5_284 im_X5_keeps sl_X5_keeps ini_X5 nm_X5_keeps (by decide) ⟨Nat.le_refl _, Nat.le_refl _⟩ (Nat.le_refl _) (Nat.le_of_ble_eq_true rfl) rfl dX5_by_29 ?_
      refine g_aload_n hX (pc := 32) (i := 0) dX5_by_32 rfl 0 rfl ?_
      refine gf5_27 hX (pc := 33) ho0 fl_X5_48 dX5_by_33 ?_
      refine g_sipush hX (pc := 36) (v := 346) dX5_by_36 (by decide) ?_
      refine g_iload_n hX (pc := 39) (i := 1) dX5_by_39 rfl 1 rfl ?_
      refine g_iadd hX (pc := 40) dX5_by_40 ?_
      obtain ⟨v7, e_v7, h⟩ := bnd h
      refine g_ialoadE hX (pc := 41) (s5_27 ho0).1 (s5_27 ho0).2.1 (s5_27 ho0).2.2.1 e_v7 dX5_by_41 ?_
      refine g_istore_n hX (pc := 42) (i := 2) (ls' := [(0, .ref o0), (1, .int x1), (2, .int v7)]) [1, 2, 0] dX5_by_42 rfl (by decide) rfl ?_
      refine g_aload_n hX (pc := 43) (i := 0) dX5_by_43 rfl 0 rfl ?_
      refine g_iload_n hX (pc := 44) (i := 1) dX5_by_44 rfl 1 rfl ?_
      obtain ⟨r8, e_r8, h⟩ := bnd h
      refine g_callVv hX (pc := 45) (d := d + 2) hr0 [.int x1] (c := 5) (ct_X5_freesHole (d := d + 2) ho0 e_r8) ho0.1.1 ho0.1.2 (by decide) rfl co_X5_freesHole ml_X5_297 im_X5_freesHole sl_X5_freesHole ini_X5 nm_X5_freesHole (by decide) ⟨Nat.le_refl _, Nat.le_refl _⟩ (Nat.le_refl _) (Nat.le_of_ble_eq_true rfl) rfl dX5_by_45 ?_
      refine g_aload_n hX (pc := 48) (i := 0) dX5_by_48 rfl 0 rfl ?_
      refine gf5_27 hX (pc := 49) ho0 fl_X5_48 dX5_by_49 ?_
      refine g_sipush hX (pc := 52) (v := 330) dX5_by_52 (by decide) ?_
      refine g_iload_n hX (pc := 55) (i := 1) dX5_by_55 rfl 1 rfl ?_
      refine g_iadd hX (pc := 56) dX5_by_56 ?_
      refine g_iconst hX (pc := 57) (v := 3) dX5_by_57 (by decide) ?_
      obtain ⟨I9, e_I9, h⟩ := bnd h
      refine g_iastoreE hX (pc := 58) (s5_27 ho0).1 (s5_27 ho0).2.1 (s5_27 ho0).2.2.1 e_I9 dX5_by_58 ?_
      refine g_aload_n hX (pc := 59) (i := 0) dX5_by_59 rfl 0 rfl ?_
      obtain ⟨r10, e_r10, h⟩ := bnd h
      refine g_callVv hX (pc := 60) (d := d + 2) hr0 [] (c := 5) (ct_X5_settles (d := d + 0) ho0 e_r10) ho0.1.1 ho0.1.2 (by decide) rfl co_X5_settles ml_X5_310 im_X5_settles sl_X5_settles ini_X5 nm_X5_settles (by decide) ⟨Nat.le_refl _, Nat.le_refl _⟩ (Nat.le_refl _) (Nat.le_of_ble_eq_true rfl) rfl dX5_by_60 ?_
      refine g_iload_n hX (pc := 63) (i := 2) dX5_by_63 rfl 2 rfl ?_
      replace h := Option.some.inj h
      obtain ⟨rfl, rfl⟩ := Prod.mk.inj h
      exact g_ireturn hX (Nat.le_refl _) (Nat.le_refl _) dX5_by_64
noncomputable def f_X5_unitAt (o0 : Nat) (x1 : Int32) (x2 : Int32) (x3 : Int32) (x4 : Int32) (J : MJ) (I : MI) : Option (Int32) :=
  if x3 = ((-1)) then
    (rd 2117 (I (o0 + 13)) x2).bind fun v2 =>
    some v2
  else
    (rd 2117 (I (o0 + 13)) x2).bind fun v3 =>
    (f_X5_within x3.toInt64 0 ((v3 - 1).toInt64)).bind fun r4 =>
    if r4 = 0 then
      some ((-2))
    else
      (f_X5_within x4.toInt64 0 1).bind fun r6 =>
      if r6 = 0 then
        some ((-2))
      else
        (if x4 = 0 then
          (rd 2117 (I (o0 + 13)) (x1 + x3)).bind fun v10 =>
          some (v10 / 10)
        else
          (rd 2117 (I (o0 + 13)) (x1 + x3)).bind fun v11 =>
          some (v11 - v11 / 10 * 10)).bind fun (p12 : Int32) =>
        some p12
theorem nm_X5_unitAt : yX5_unitAt.cls ≠ "java/lang/invoke/MethodHandle" ∧ yX5_unitAt.cls ≠ "java/lang/invoke/VarHandle" ∧ (parseMethodDescriptor yX5_unitAt.desc).map (fun d => d.parameters.length) = some 4 := by decide +kernel
set_option maxRecDepth 100000 in
set_option maxHeartbeats 4000000 in
theorem ct_X5_unitAt {E : Ev} {d : Nat} {z : Sh} {J : MJ} {I : MI} {o0 : Nat} {x1 : Int32} {x2 : Int32} {x3 : Int32} {x4 : Int32} {rr : Int32} (ho0 : oX5 z o0) (h : f_X5_unitAt o0 x1 x2 x3 x4 J I = some rr) : Ct E (d + 1) yX5_unitAt cX5_unitAt 5 (some .int) 0 0 [.ref o0, .int x1, .int x2, .int x3, .int x4] z J I (some (.int rr)) z J I := by
  unfold f_X5_unitAt at h
  refine Ct.of (own := RX5) (ls := [(0, .ref o0), (1, .int x1), (2, .int x2), (3, .int x3), (4, .int x4)]) (by decide) rfl (Nat.le_of_ble_eq_true rfl) rfl ?_
  intro X hr0 hnm hX
  refine g_iload_n hX (pc := 0) (i := 3) dX5_unitAt_0 rfl 3 rfl ?_
  refine g_iconst hX (pc := 1) (v := (-1)) dX5_unitAt_1 (by decide) ?_
  refine g_icmp_ne hX (pc := 2) dX5_unitAt_2 (tgt := 12) (by decide) (fun c1 => ?_) (fun c1 => ?_)
  · replace h := ifP c1 h
    refine g_aload_n hX (pc := 5) (i := 0) dX5_unitAt_5 rfl 0 rfl ?_
    refine gf5_27 hX (pc := 6) ho0 fl_X5_48 dX5_unitAt_6 ?_
    refine g_iload_n hX (pc := 9) (i := 2) dX5_unitAt_9 rfl 2 rfl ?_
    obtain ⟨v2, e_v2, h⟩ := bnd h
    refine g_ialoadE hX (pc := 10) (s5_27 ho0).1 (s5_27 ho0).2.1 (s5_27 ho0).2.2.1 e_v2 dX5_unitAt_10 ?_
    obtain rfl := Option.some.inj h
    exact g_ireturn hX (Nat.le_refl _) (Nat.le_refl _) dX5_unitAt_11
  · replace h := ifN c1 h
    refine g_iload_n hX (pc := 12) (i := 3) dX5_unitAt_12 rfl 3 rfl ?_
    refine g_i2l hX (pc := 13) dX5_unitAt_13 ?_
    refine g_lconst hX (pc := 14) (v := 0) dX5_unitAt_14 (by decide) ?_
    refine g_aload_n hX (pc := 15) (i := 0) dX5_unitAt_15 rfl 0 rfl ?_
    refine gf5_27 hX (pc := 16) ho0 fl_X5_48 dX5_unitAt_16 ?_
    refine g_iload_n hX (pc := 19) (i := 2) dX5_unitAt_19 rfl 2 rfl ?_
    obtain ⟨v3, e_v3, h⟩ := bnd h
    refine g_ialoadE hX (pc := 20) (s5_27 ho0).1 (s5_27 ho0).2.1 (s5_27 ho0).2.2.1 e_v3 dX5_unitAt_20 ?_
    refine g_iconst hX (pc := 21) (v := 1) dX5_unitAt_21 (by decide) ?_
    refine g_isub hX (pc := 22) dX5_unitAt_22 ?_
    refine g_i2l hX (pc := 23) dX5_unitAt_23 ?_
    obtain ⟨r4, e_r4, h⟩ := bnd h
    refine g_callSi hX (pc := 24) (d := d + 0) hr0 [.long x3.toInt64, .long 0, .long ((v3 - 1).toInt64)] (ct_X5_within (d := d + 0)  e_r4) co_X5_within ml_X5_123 sta_X5_within ini_X5 nm_X5_within (by decide) ⟨Nat.le_refl _, Nat.le_refl _⟩ (Nat.le_refl _) (Nat.le_of_ble_eq_true rfl) rfl dX5_unitAt_24 ?_
    refine g_if_eq hX (pc := 27) dX5_unitAt_27 (tgt := 41) (by decide) (fun c5 => ?_) (fun c5 => ?_)
    · replace h := ifP c5 h
      refine g_bipush hX (pc := 41) (v := (-2)) dX5_unitAt_41 (by decide) ?_
      obtain rfl := Option.some.inj h
      exact g_ireturn hX (Nat.le_refl _) (Nat.le_refl _) dX5_unitAt_43
    · replace h := ifN c5 h
      refine g_iload hX (pc := 30) dX5_unitAt_30 4 rfl ?_
      refine g_i2l hX (pc := 32) dX5_unitAt_32 ?_
      refine g_lconst hX (pc := 33) (v := 0) dX5_unitAt_33 (by decide) ?_
      refine g_lconst hX (pc := 34) (v := 1) dX5_unitAt_34 (by decide) ?_
      obtain ⟨r6, e_r6, h⟩ := bnd h
      refine g_callSi hX (pc := 35) (d := d + 0) hr0 [.long x4.toInt64, .long 0, .long 1] (ct_X5_within (d := d + 0)  e_r6) co_X5_within ml_X5_123 sta_X5_within ini_X5 nm_X5_within (by decide) ⟨Nat.le_refl _, Nat.le_refl _⟩ (Nat.le_refl _) (Nat.le_of_ble_eq_true rfl) rfl dX5_unitAt_35 ?_
      refine g_if_ne hX (pc := 38) dX5_unitAt_38 (tgt := 44) (by decide) (fun c7 => ?_) (fun c7 => ?_)
      · replace h := ifP c7 h
        refine g_bipush hX (pc := 41) (v := (-2)) dX5_unitAt_41 (by decide) ?_
        obtain rfl := Option.some.inj h
        exact g_ireturn hX (Nat.le_refl _) (Nat.le_refl _) dX5_unitAt_43
      · replace h := ifN c7 h
        refine g_iload hX (pc := 44) dX5_unitAt_44 4 rfl ?_
        obtain ⟨p12, hpj9, h⟩ := bnd h
        have Kj9 : ∀ qj9 : Int32, qj9 = p12 → GW E X (QX E X 0 0 (some (.int rr)) z J I) 5 74 [(0, .ref o0), (1, .int x1), (2, .int x2), (3, .int x3), (4, .int x4)] [.int qj9] z J I 0 0 := by
          intro qj9 hqj9
          subst hqj9
          obtain rfl := Option.some.inj h
          exact g_ireturn hX (Nat.le_refl _) (Nat.le_refl _) dX5_unitAt_74
        replace h := hpj9
        clear hpj9
        refine g_if_ne hX (pc := 46) dX5_unitAt_46 (tgt := 63) (by decide) (fun c8 => ?_) (fun c8 => ?_)
        · replace h := ifP c8 h
          refine g_aload_n hX (pc := 49) (i := 0) dX5_unitAt_49 rfl 0 rfl ?_
          refine gf5_27 hX (pc := 50) ho0 fl_X5_48 dX5_unitAt_50 ?_
          refine g_iload_n hX (pc := 53) (i := 1) dX5_unitAt_53 rfl 1 rfl ?_
          refine g_iload_n hX (pc := 54) (i := 3) dX5_unitAt_54 rfl 3 rfl ?_
          refine g_iadd hX (pc := 55) dX5_unitAt_55 ?_
          obtain ⟨v10, e_v10, h⟩ := bnd h
          refine g_ialoadE hX (pc := 56) (s5_27 ho0).1 (s5_27 ho0).2.1 (s5_27 ho0).2.2.1 e_v10 dX5_unitAt_56 ?_
          refine g_bipush hX (pc := 57) (v := 10) dX5_unitAt_57 (by decide) ?_
          refine g_idiv hX (pc := 59) dX5_unitAt_59 (by decide) ?_
          refine g_goto hX (pc := 60) (tgt := 74) dX5_unitAt_60 (by decide) ?_
          exact Kj9 (v10 / 10) (Option.some.inj h)
        · replace h := ifN c8 h
          refine g_aload_n hX (pc := 63) (i := 0) dX5_unitAt_63 rfl 0 rfl ?_
          refine gf5_27 hX (pc := 64) ho0 fl_X5_48 dX5_unitAt_64 ?_
          refine g_iload_n hX (pc := 67) (i := 1) dX5_unitAt_67 rfl 1 rfl ?_
          refine g_iload_n hX (pc := 68) (i := 3) dX5_unitAt_68 rfl 3 rfl ?_
          refine g_iadd hX (pc := 69) dX5_unitAt_69 ?_
          obtain ⟨v11, e_v11, h⟩ := bnd h
          refine g_ialoadE hX (pc := 70) (s5_27 ho0).1 (s5_27 ho0).2.1 (s5_27 ho0).2.2.1 e_v11 dX5_unitAt_70 ?_
          refine g_bipush hX (pc := 71) (v := 10) dX5_unitAt_71 (by decide) ?_
          refine g_irem hX (pc := 73) dX5_unitAt_73 (by decide) ?_
          exact Kj9 (v11 - v11 / 10 * 10) (Option.some.inj h)
noncomputable def f_X5_belt (o0 : Nat) (x1 : Int32) (x2 : Int32) (J : MJ) (I : MI) : Option (Int32 × MI) :=
  (wf I o0 0 0).bind fun I1 =>
  (f_X5_unitAt o0 371 370 x1 x2 J I1).bind fun r2 =>
  some ((r2, I1))
theorem nm_X5_belt : yX5_belt.cls ≠ "java/lang/invoke/MethodHandle" ∧ yX5_belt.cls ≠ "java/lang/invoke/VarHandle" ∧ (parseMethodDescriptor yX5_belt.desc).map (fun d => d.parameters.length) = some 2 := by decide +kernel
set_option maxRecDepth 100000 in
set_option maxHeartbeats 4000000 in
theorem ct_X5_belt {E : Ev} {d : Nat} {z : Sh} {J : MJ} {I : MI} {o0 : Nat} {x1 : Int32} {x2 : Int32} {rr : Int32} {Iz : MI} (ho0 : oX5 z o0) (h : f_X5_belt o0 x1 x2 J I = some ((rr, Iz))) : Ct E (d + 2) yX5_belt cX5_belt 3 (some .int) 0 0 [.ref o0, .int x1, .int x2] z J I (some (.int rr)) z J Iz := by
  unfold f_X5_belt at h
  refine Ct.of (own := RX5) (ls := [(0, .ref o0), (1, .int x1), (2, .int x2)]) (by decide) rfl (Nat.le_of_ble_eq_true rfl) rfl ?_
  intro X hr0 hnm hX
  refine g_aload_n hX (pc := 0) (i := 0) dX5_belt_0 rfl 0 rfl ?_
  refine g_iconst hX (pc := 1) (v := 0) dX5_belt_1 (by decide) ?_
  obtain ⟨I1, e_I1, h⟩ := bnd h
  refine pf5_0 hX (pc := 2) ho0 fl_X5_86 dX5_belt_2 e_I1 ?_
  refine g_aload_n hX (pc := 5) (i := 0) dX5_belt_5 rfl 0 rfl ?_
  refine g_sipush hX (pc := 6) (v := 371) dX5_belt_6 (by decide) ?_
  refine g_sipush hX (pc := 9) (v := 370) dX5_belt_9 (by decide) ?_
  refine g_iload_n hX (pc := 12) (i := 1) dX5_belt_12 rfl 1 rfl ?_
  refine g_iload_n hX (pc := 13) (i := 2) dX5_belt_13 rfl 2 rfl ?_
  obtain ⟨r2, e_r2, h⟩ := bnd h
  refine g_callVi hX (pc := 14) (d := d + 1) hr0 [.int 371, .int 370, .int x1, .int x2] (c := 5) (ct_X5_unitAt (d := d + 0) ho0 e_r2) ho0.1.1 ho0.1.2 (by decide) rfl co_X5_unitAt ml_X5_320 im_X5_unitAt sl_X5_unitAt ini_X5 nm_X5_unitAt (by decide) ⟨Nat.le_refl _, Nat.le_refl _⟩ (Nat.le_refl _) (Nat.le_of_ble_eq_true rfl) rfl dX5_belt_14 ?_
  replace h := Option.some.inj h
  obtain ⟨rfl, rfl⟩ := Prod.mk.inj h
  exact g_ireturn hX (Nat.le_refl _) (Nat.le_refl _) dX5_belt_17
noncomputable def f_X5_aside (o0 : Nat) (x1 : Int32) (x2 : Int32) (J : MJ) (I : MI) : Option (Int32 × MI) :=
  (wf I o0 0 0).bind fun I1 =>
  (f_X5_unitAt o0 1236 1235 x1 x2 J I1).bind fun r2 =>
  some ((r2, I1))
theorem nm_X5_aside : yX5_aside.cls ≠ "java/lang/invoke/MethodHandle" ∧ yX5_aside.cls ≠ "java/lang/invoke/VarHandle" ∧ (parseMethodDescriptor yX5_aside.desc).map (fun d => d.parameters.length) = some 2 := by decide +kernel
set_option maxRecDepth 100000 in
set_option maxHeartbeats 4000000 in
theorem ct_X5_aside {E : Ev} {d : Nat} {z : Sh} {J : MJ} {I : MI} {o0 : Nat} {x1 : Int32} {x2 : Int32} {rr : Int32} {Iz : MI} (ho0 : oX5 z o0) (h : f_X5_aside o0 x1 x2 J I = some ((rr, Iz))) : Ct E (d + 2) yX5_aside cX5_aside 3 (some .int) 0 0 [.ref o0, .int x1, .int x2] z J I (some (.int rr)) z J Iz := by
  unfold f_X5_aside at h
  refine Ct.of (own := RX5) (ls := [(0, .ref o0), (1, .int x1), (2, .int x2)]) (by decide) rfl (Nat.le_of_ble_eq_true rfl) rfl ?_
  intro X hr0 hnm hX
  refine g_aload_n hX (pc := 0) (i := 0) dX5_aside_0 rfl 0 rfl ?_
  refine g_iconst hX (pc := 1) (v := 0) dX5_aside_1 (by decide) ?_
  obtain ⟨I1, e_I1, h⟩ := bnd h
  refine pf5_0 hX (pc := 2) ho0 fl_X5_86 dX5_aside_2 e_I1 ?_
  refine g_aload_n hX (pc := 5) (i := 0) dX5_aside_5 rfl 0 rfl ?_
  refine g_sipush hX (pc := 6) (v := 1236) dX5_aside_6 (by decide) ?_
  refine g_sipush hX (pc := 9) (v := 1235) dX5_aside_9 (by decide) ?_
  refine g_iload_n hX (pc := 12) (i := 1) dX5_aside_12 rfl 1 rfl ?_
  refine g_iload_n hX (pc := 13) (i := 2) dX5_aside_13 rfl 2 rfl ?_
  obtain ⟨r2, e_r2, h⟩ := bnd h
  refine g_callVi hX (pc := 14) (d := d + 1) hr0 [.int 1236, .int 1235, .int x1, .int x2] (c := 5) (ct_X5_unitAt (d := d + 0) ho0 e_r2) ho0.1.1 ho0.1.2 (by decide) rfl co_X5_unitAt ml_X5_320 im_X5_unitAt sl_X5_unitAt ini_X5 nm_X5_unitAt (by decide) ⟨Nat.le_refl _, Nat.le_refl _⟩ (Nat.le_refl _) (Nat.le_of_ble_eq_true rfl) rfl dX5_aside_14 ?_
  replace h := Option.some.inj h
  obtain ⟨rfl, rfl⟩ := Prod.mk.inj h
  exact g_ireturn hX (Nat.le_refl _) (Nat.le_refl _) dX5_aside_17
noncomputable def f_X5_hole (o0 : Nat) (x1 : Int32) (J : MJ) (I : MI) : Option (Int32 × MI) :=
  (wf I o0 0 0).bind fun I1 =>
  (rd 2 (I1 (o0 + 4)) 0).bind fun v2 =>
  (f_X5_within x1.toInt64 0 ((v2 - 1).toInt64)).bind fun r3 =>
  (if r3 = 0 then
    some ((-2))
  else
    (rd 2117 (I1 (o0 + 13)) (362 + x1)).bind fun v6 =>
    some v6).bind fun (p7 : Int32) =>
  some ((p7, I1))
theorem nm_X5_hole : yX5_hole.cls ≠ "java/lang/invoke/MethodHandle" ∧ yX5_hole.cls ≠ "java/lang/invoke/VarHandle" ∧ (parseMethodDescriptor yX5_hole.desc).map (fun d => d.parameters.length) = some 1 := by decide +kernel
set_option maxRecDepth 100000 in
set_option maxHeartbeats 4000000 in
theorem ct_X5_hole {E : Ev} {d : Nat} {z : Sh} {J : MJ} {I : MI} {o0 : Nat} {x1 : Int32} {rr : Int32} {Iz : MI} (ho0 : oX5 z o0) (h : f_X5_hole o0 x1 J I = some ((rr, Iz))) : Ct E (d + 1) yX5_hole cX5_hole 2 (some .int) 0 0 [.ref o0, .int x1] z J I (some (.int rr)) z J Iz := by
  unfold f_X5_hole at h
  refine Ct.of (own := RX5) (ls := [(0, .ref o0), (1, .int x1)]) (by decide) rfl (Nat.le_of_ble_eq_true rfl) rfl ?_
  intro X hr0 hnm hX
  refine g_aload_n hX (pc := 0) (i := 0) dX5_hole_0 rfl 0 rfl ?_
  refine g_iconst hX (pc := 1) (v := 0) dX5_hole_1 (by decide) ?_
  obtain ⟨I1, e_I1, h⟩ := bnd h
  refine pf5_0 hX (pc := 2) ho0 fl_X5_86 dX5_hole_2 e_I1 ?_
  refine g_iload_n hX (pc := 5) (i := 1) dX5_hole_5 rfl 1 rfl ?_
  refine g_i2l hX (pc := 6) dX5_hole_6 ?_
  refine g_lconst hX (pc := 7) (v := 0) dX5_hole_7 (by decide) ?_
  refine g_aload_n hX (pc := 8) (i := 0) dX5_hole_8 rfl 0 rfl ?_
  refine gf5_15 hX (pc := 9) ho0 fl_X5_20 dX5_hole_9 ?_
  refine g_iconst hX (pc := 12) (v := 0) dX5_hole_12 (by decide) ?_
  obtain ⟨v2, e_v2, h⟩ := bnd h
  refine g_ialoadE hX (pc := 13) (s5_15 ho0).1 (s5_15 ho0).2.1 (s5_15 ho0).2.2.1 e_v2 dX5_hole_13 ?_
  refine g_iconst hX (pc := 14) (v := 1) dX5_hole_14 (by decide) ?_
  refine g_isub hX (pc := 15) dX5_hole_15 ?_
  refine g_i2l hX (pc := 16) dX5_hole_16 ?_
  obtain ⟨r3, e_r3, h⟩ := bnd h
  refine g_callSi hX (pc := 17) (d := d + 0) hr0 [.long x1.toInt64, .long 0, .long ((v2 - 1).toInt64)] (ct_X5_within (d := d + 0)  e_r3) co_X5_within ml_X5_123 sta_X5_within ini_X5 nm_X5_within (by decide) ⟨Nat.le_refl _, Nat.le_refl _⟩ (Nat.le_refl _) (Nat.le_of_ble_eq_true rfl) rfl dX5_hole_17 ?_
  obtain ⟨p7, hpj5, h⟩ := bnd h
  have Kj5 : ∀ qj5 : Int32, qj5 = p7 → GW E X (QX E X 0 0 (some (.int rr)) z J Iz) 2 38 [(0, .ref o0), (1, .int x1)] [.int qj5] z J I1 0 0 := by
    intro qj5 hqj5
    subst hqj5
    replace h := Option.some.inj h
    obtain ⟨rfl, rfl⟩ := Prod.mk.inj h
    exact g_ireturn hX (Nat.le_refl _) (Nat.le_refl _) dX5_hole_38
  replace h := hpj5
  clear hpj5
  refine g_if_eq hX (pc := 20) dX5_hole_20 (tgt := 36) (by decide) (fun c4 => ?_) (fun c4 => ?_)
  · replace h := ifP c4 h
    refine g_bipush hX (pc := 36) (v := (-2)) dX5_hole_36 (by decide) ?_
    exact Kj5 ((-2)) (Option.some.inj h)
  · replace h := ifN c4 h
    refine g_aload_n hX (pc := 23) (i := 0) dX5_hole_23 rfl 0 rfl ?_
    refine gf5_27 hX (pc := 24) ho0 fl_X5_48 dX5_hole_24 ?_
    refine g_sipush hX (pc := 27) (v := 362) dX5_hole_27 (by decide) ?_
    refine g_iload_n hX (pc := 30) (i := 1) dX5_hole_30 rfl 1 rfl ?_
    refine g_iadd hX (pc := 31) dX5_hole_31 ?_
    obtain ⟨v6, e_v6, h⟩ := bnd h
    refine g_ialoadE hX (pc := 32) (s5_27 ho0).1 (s5_27 ho0).2.1 (s5_27 ho0).2.2.1 e_v6 dX5_hole_32 ?_
    refine g_goto hX (pc := 33) (tgt := 38) dX5_hole_33 (by decide) ?_
    exact Kj5 v6 (Option.some.inj h)
noncomputable def f_X5_whole (o0 : Nat) (x1 : Int32) (J : MJ) (I : MI) : Option (Int32 × MI) :=
  (wf I o0 0 0).bind fun I1 =>
  (if x1 = ((-1)) then
    (rd 2117 (I1 (o0 + 13)) 2100).bind fun v4 =>
    some v4
  else
    (rd 2117 (I1 (o0 + 13)) 2100).bind fun v5 =>
    (f_X5_within x1.toInt64 0 ((v5 - 1).toInt64)).bind fun r6 =>
    if r6 = 0 then
      some ((-2))
    else
      (rd 2117 (I1 (o0 + 13)) (2101 + x1)).bind fun v8 =>
      some v8).bind fun (p9 : Int32) =>
  some ((p9, I1))
theorem nm_X5_whole : yX5_whole.cls ≠ "java/lang/invoke/MethodHandle" ∧ yX5_whole.cls ≠ "java/lang/invoke/VarHandle" ∧ (parseMethodDescriptor yX5_whole.desc).map (fun d => d.parameters.length) = some 1 := by decide +kernel
set_option maxRecDepth 100000 in
set_option maxHeartbeats 4000000 in
theorem ct_X5_whole {E : Ev} {d : Nat} {z : Sh} {J : MJ} {I : MI} {o0 : Nat} {x1 : Int32} {rr : Int32} {Iz : MI} (ho0 : oX5 z o0) (h : f_X5_whole o0 x1 J I = some ((rr, Iz))) : Ct E (d + 1) yX5_whole cX5_whole 2 (some .int) 0 0 [.ref o0, .int x1] z J I (some (.int rr)) z J Iz := by
  unfold f_X5_whole at h
  refine Ct.of (own := RX5) (ls := [(0, .ref o0), (1, .int x1)]) (by decide) rfl (Nat.le_of_ble_eq_true rfl) rfl ?_
  intro X hr0 hnm hX
  refine g_aload_n hX (pc := 0) (i := 0) dX5_whole_0 rfl 0 rfl ?_
  refine g_iconst hX (pc := 1) (v := 0) dX5_whole_1 (by decide) ?_
  obtain ⟨I1, e_I1, h⟩ := bnd h
  refine pf5_0 hX (pc := 2) ho0 fl_X5_86 dX5_whole_2 e_I1 ?_
  refine g_iload_n hX (pc := 5) (i := 1) dX5_whole_5 rfl 1 rfl ?_
  refine g_iconst hX (pc := 6) (v := (-1)) dX5_whole_6 (by decide) ?_
  obtain ⟨p9, hpj3, h⟩ := bnd h
  have Kj3 : ∀ qj3 : Int32, qj3 = p9 → GW E X (QX E X 0 0 (some (.int rr)) z J Iz) 2 56 [(0, .ref o0), (1, .int x1)] [.int qj3] z J I1 0 0 := by
    intro qj3 hqj3
    subst hqj3
    replace h := Option.some.inj h
    obtain ⟨rfl, rfl⟩ := Prod.mk.inj h
    exact g_ireturn hX (Nat.le_refl _) (Nat.le_refl _) dX5_whole_56
  replace h := hpj3
  clear hpj3
  refine g_icmp_ne hX (pc := 7) dX5_whole_7 (tgt := 21) (by decide) (fun c2 => ?_) (fun c2 => ?_)
  · replace h := ifP c2 h
    refine g_aload_n hX (pc := 10) (i := 0) dX5_whole_10 rfl 0 rfl ?_
    refine gf5_27 hX (pc := 11) ho0 fl_X5_48 dX5_whole_11 ?_
    refine g_sipush hX (pc := 14) (v := 2100) dX5_whole_14 (by decide) ?_
    obtain ⟨v4, e_v4, h⟩ := bnd h
    refine g_ialoadE hX (pc := 17) (s5_27 ho0).1 (s5_27 ho0).2.1 (s5_27 ho0).2.2.1 e_v4 dX5_whole_17 ?_
    refine g_goto hX (pc := 18) (tgt := 56) dX5_whole_18 (by decide) ?_
    exact Kj3 v4 (Option.some.inj h)
  · replace h := ifN c2 h
    refine g_iload_n hX (pc := 21) (i := 1) dX5_whole_21 rfl 1 rfl ?_
    refine g_i2l hX (pc := 22) dX5_whole_22 ?_
    refine g_lconst hX (pc := 23) (v := 0) dX5_whole_23 (by decide) ?_
    refine g_aload_n hX (pc := 24) (i := 0) dX5_whole_24 rfl 0 rfl ?_
    refine gf5_27 hX (pc := 25) ho0 fl_X5_48 dX5_whole_25 ?_
    refine g_sipush hX (pc := 28) (v := 2100) dX5_whole_28 (by decide) ?_
    obtain ⟨v5, e_v5, h⟩ := bnd h
    refine g_ialoadE hX (pc := 31) (s5_27 ho0).1 (s5_27 ho0).2.1 (s5_27 ho0).2.2.1 e_v5 dX5_whole_31 ?_
    refine g_iconst hX (pc := 32) (v := 1) dX5_whole_32 (by decide) ?_
    refine g_isub hX (pc := 33) dX5_whole_33 ?_
    refine g_i2l hX (pc := 34) dX5_whole_34 ?_
    obtain ⟨r6, e_r6, h⟩ := bnd h
    refine g_callSi hX (pc := 35) (d := d + 0) hr0 [.long x1.toInt64, .long 0, .long ((v5 - 1).toInt64)] (ct_X5_within (d := d + 0)  e_r6) co_X5_within ml_X5_123 sta_X5_within ini_X5 nm_X5_within (by decide) ⟨Nat.le_refl _, Nat.le_refl _⟩ (Nat.le_refl _) (Nat.le_of_ble_eq_true rfl) rfl dX5_whole_35 ?_
    refine g_if_eq hX (pc := 38) dX5_whole_38 (tgt := 54) (by decide) (fun c7 => ?_) (fun c7 => ?_)
    · replace h := ifP c7 h
      refine g_bipush hX (pc := 54) (v := (-2)) dX5_whole_54 (by decide) ?_
      exact Kj3 ((-2)) (Option.some.inj h)
    · replace h := ifN c7 h
      refine g_aload_n hX (pc := 41) (i := 0) dX5_whole_41 rfl 0 rfl ?_
      refine gf5_27 hX (pc := 42) ho0 fl_X5_48 dX5_whole_42 ?_
      refine g_sipush hX (pc := 45) (v := 2101) dX5_whole_45 (by decide) ?_
      refine g_iload_n hX (pc := 48) (i := 1) dX5_whole_48 rfl 1 rfl ?_
      refine g_iadd hX (pc := 49) dX5_whole_49 ?_
      obtain ⟨v8, e_v8, h⟩ := bnd h
      refine g_ialoadE hX (pc := 50) (s5_27 ho0).1 (s5_27 ho0).2.1 (s5_27 ho0).2.2.1 e_v8 dX5_whole_50 ?_
      refine g_goto hX (pc := 51) (tgt := 56) dX5_whole_51 (by decide) ?_
      exact Kj3 v8 (Option.some.inj h)
noncomputable def b_X5_stuck_9 (o0 : Nat) (J : MJ) (I1 : MI) (s : Int32 × Int32) : Option ((Int32 × Int32) ⊕ (Int32 × Int32)) :=
  (rd 2 (I1 (o0 + 3)) 0).bind fun v5 =>
  if s.2 < v5 then
    (rd 2117 (I1 (o0 + 13)) (330 + s.2)).bind fun v7 =>
    (if v7 = 2 then
      (f_X5_sumOf o0 170 s.2 J I1).bind fun r10 =>
      (f_X5_needOf o0 s.2 J I1).bind fun r11 =>
      (f_X5_sumOf o0 10 s.2 J I1).bind fun r12 =>
      if r10 = (r11 - r12) then
        some ((1 : Int32) <<< (s.2 &&& 31))
      else
        some 0
    else
      some 0).bind fun (p14 : Int32) =>
    some (.inl ((s.1 ||| p14, s.2 + 1)))
  else
    some (.inr ((s.1, s.2)))
noncomputable def f_X5_stuck (o0 : Nat) (J : MJ) (I : MI) : Option (Int32 × MI) :=
  (wf I o0 0 0).bind fun I1 =>
  (lp (b_X5_stuck_9 o0 J I1) ((0, 0))).bind fun p15 =>
  some ((p15.1, I1))
theorem nm_X5_stuck : yX5_stuck.cls ≠ "java/lang/invoke/MethodHandle" ∧ yX5_stuck.cls ≠ "java/lang/invoke/VarHandle" ∧ (parseMethodDescriptor yX5_stuck.desc).map (fun d => d.parameters.length) = some 0 := by decide +kernel
set_option maxRecDepth 100000 in
set_option maxHeartbeats 4000000 in
theorem ct_X5_stuck {E : Ev} {d : Nat} {z : Sh} {J : MJ} {I : MI} {o0 : Nat} {rr : Int32} {Iz : MI} (ho0 : oX5 z o0) (h : f_X5_stuck o0 J I = some ((rr, Iz))) : Ct E (d + 1) yX5_stuck cX5_stuck 3 (some .int) 0 0 [.ref o0] z J I (some (.int rr)) z J Iz := by
  unfold f_X5_stuck at h
  refine Ct.of (own := RX5) (ls := [(0, .ref o0)]) (by decide) rfl (Nat.le_of_ble_eq_true rfl) rfl ?_
  intro X hr0 hnm hX
  refine g_aload_n hX (pc := 0) (i := 0) dX5_stuck_0 rfl 0 rfl ?_
  refine g_iconst hX (pc := 1) (v := 0) dX5_stuck_1 (by decide) ?_
  obtain ⟨I1, e_I1, h⟩ := bnd h
  refine pf5_0 hX (pc := 2) ho0 fl_X5_86 dX5_stuck_2 e_I1 ?_
  refine g_iconst hX (pc := 5) (v := 0) dX5_stuck_5 (by decide) ?_
  refine g_istore_n hX (pc := 6) (i := 1) (ls' := [(0, .ref o0), (1, .int 0)]) [1, 0] dX5_stuck_6 rfl (by decide) rfl ?_
  refine g_iconst hX (pc := 7) (v := 0) dX5_stuck_7 (by decide) ?_
  refine g_istore_n hX (pc := 8) (i := 2) (ls' := [(0, .ref o0), (1, .int 0), (2, .int 0)]) [1, 2, 0] dX5_stuck_8 rfl (by decide) rfl ?_
  obtain ⟨p15, hpl4, h⟩ := bnd h
  have Kl4 : ∀ ql4 : Int32 × Int32, ql4 = p15 → GW E X (QX E X 0 0 (some (.int rr)) z J Iz) 3 73 [(0, .ref o0), (1, .int ql4.1), (2, .int ql4.2)] [] z J I1 0 0 := by
    intro ql4 hql4
    subst hql4
    refine g_iload_n hX (pc := 73) (i := 1) dX5_stuck_73 rfl 1 rfl ?_
    replace h := Option.some.inj h
    obtain ⟨rfl, rfl⟩ := Prod.mk.inj h
    exact g_ireturn hX (Nat.le_refl _) (Nat.le_refl _) dX5_stuck_74
  obtain ⟨kl4, hkl4⟩ := lp_ex hpl4
  clear hpl4 h
  have Ll4 : ∀ k : Nat, ∀ (s2 : Int32) (s3 : Int32), lpN k (b_X5_stuck_9 o0 J I1) ((s2, s3)) = some p15 → GW E X (QX E X 0 0 (some (.int rr)) z J Iz) 3 9 [(0, .ref o0), (1, .int s2), (2, .int s3)] [] z J I1 0 0 := by
    intro k
    induction k with
    | zero => intro s2 s3 h; cases h
    | succ k ihl4 =>
      intro s2 s3 h
      obtain ⟨wl4, h, hwl4⟩ := lpN_s h
      unfold b_X5_stuck_9 at h
      try dsimp only at h
      refine g_iload_n hX (pc := 9) (i := 2) dX5_stuck_9 rfl 2 rfl ?_
      refine g_aload_n hX (pc := 10) (i := 0) dX5_stuck_10 rfl 0 rfl ?_
      refine gf5_14 hX (pc := 11) ho0 fl_X5_17 dX5_stuck_11 ?_
      refine g_iconst hX (pc := 14) (v := 0) dX5_stuck_14 (by decide) ?_
      obtain ⟨v5, e_v5, h⟩ := bnd h
      refine g_ialoadE hX (pc := 15) (s5_14 ho0).1 (s5_14 ho0).2.1 (s5_14 ho0).2.2.1 e_v5 dX5_stuck_15 ?_
      refine g_icmp_ge hX (pc := 16) dX5_stuck_16 (tgt := 73) (by decide) (fun c6 => ?_) (fun c6 => ?_)
      · replace h := ifP c6 h
        refine g_iload_n hX (pc := 19) (i := 1) dX5_stuck_19 rfl 1 rfl ?_
        refine g_aload_n hX (pc := 20) (i := 0) dX5_stuck_20 rfl 0 rfl ?_
        refine gf5_27 hX (pc := 21) ho0 fl_X5_48 dX5_stuck_21 ?_
        refine g_sipush hX (pc := 24) (v := 330) dX5_stuck_24 (by decide) ?_
        refine g_iload_n hX (pc := 27) (i := 2) dX5_stuck_27 rfl 2 rfl ?_
        refine g_iadd hX (pc := 28) dX5_stuck_28 ?_
        obtain ⟨v7, e_v7, h⟩ := bnd h
        refine g_ialoadE hX (pc := 29) (s5_27 ho0).1 (s5_27 ho0).2.1 (s5_27 ho0).2.2.1 e_v7 dX5_stuck_29 ?_
        refine g_iconst hX (pc := 30) (v := 2) dX5_stuck_30 (by decide) ?_
        obtain ⟨p14, hpj9, h⟩ := bnd h
        have Kj9 : ∀ qj9 : Int32, qj9 = p14 → GW E X (QX E X 0 0 (some (.int rr)) z J Iz) 3 65 [(0, .ref o0), (1, .int s2), (2, .int s3)] [.int qj9, .int s2] z J I1 0 0 := by
          intro qj9 hqj9
          subst hqj9
          refine g_ior hX (pc := 65) dX5_stuck_65 ?_
          refine g_istore_n hX (pc := 66) (i := 1) (ls' := [(0, .ref o0), (1, .int (s2 ||| qj9)), (2, .int s3)]) [1, 0, 2] dX5_stuck_66 rfl (by decide) rfl ?_
          refine g_iinc hX (pc := 67) (i := 2) (v := s3 + 1) (ls' := [(0, .ref o0), (1, .int (s2 ||| qj9)), (2, .int (s3 + 1))]) 2 [1, 2, 0] dX5_stuck_67 rfl (by rfl) (by decide) rfl ?_
          refine g_goto hX (pc := 70) (tgt := 9) dX5_stuck_70 (by decide) ?_
          obtain rfl := Option.some.inj h
          exact ihl4 (s2 ||| qj9) (s3 + 1) hwl4
        replace h := hpj9
        clear hpj9
        refine g_icmp_ne hX (pc := 31) dX5_stuck_31 (tgt := 64) (by decide) (fun c8 => ?_) (fun c8 => ?_)
        · replace h := ifP c8 h
          refine g_aload_n hX (pc := 34) (i := 0) dX5_stuck_34 rfl 0 rfl ?_
          refine g_sipush hX (pc := 35) (v := 170) dX5_stuck_35 (by decide) ?_
          refine g_iload_n hX (pc := 38) (i := 2) dX5_stuck_38 rfl 2 rfl ?_
          obtain ⟨r10, e_r10, h⟩ := bnd h
          refine g_callVi hX (pc := 39) (d := d + 0) hr0 [.int 170, .int s3] (c := 5) (ct_X5_sumOf (d := d + 0) ho0 e_r10) ho0.1.1 ho0.1.2 (by decide) rfl co_X5_sumOf ml_X5_240 im_X5_sumOf sl_X5_sumOf ini_X5 nm_X5_sumOf (by decide) ⟨Nat.le_refl _, Nat.le_refl _⟩ (Nat.le_refl _) (Nat.le_of_ble_eq_true rfl) rfl dX5_stuck_39 ?_
          refine g_aload_n hX (pc := 42) (i := 0) dX5_stuck_42 rfl 0 rfl ?_
          refine g_iload_n hX (pc := 43) (i := 2) dX5_stuck_43 rfl 2 rfl ?_
          obtain ⟨r11, e_r11, h⟩ := bnd h
          refine g_callVi hX (pc := 44) (d := d + 0) hr0 [.int s3] (c := 5) (ct_X5_needOf (d := d + 0) ho0 e_r11) ho0.1.1 ho0.1.2 (by decide) rfl co_X5_needOf ml_X5_237 im_X5_needOf sl_X5_needOf ini_X5 nm_X5_needOf (by decide) ⟨Nat.le_refl _, Nat.le_refl _⟩ (Nat.le_refl _) (Nat.le_of_ble_eq_true rfl) rfl dX5_stuck_44 ?_
          refine g_aload_n hX (pc := 47) (i := 0) dX5_stuck_47 rfl 0 rfl ?_
          refine g_bipush hX (pc := 48) (v := 10) dX5_stuck_48 (by decide) ?_
          refine g_iload_n hX (pc := 50) (i := 2) dX5_stuck_50 rfl 2 rfl ?_
          obtain ⟨r12, e_r12, h⟩ := bnd h
          refine g_callVi hX (pc := 51) (d := d + 0) hr0 [.int 10, .int s3] (c := 5) (ct_X5_sumOf (d := d + 0) ho0 e_r12) ho0.1.1 ho0.1.2 (by decide) rfl co_X5_sumOf ml_X5_240 im_X5_sumOf sl_X5_sumOf ini_X5 nm_X5_sumOf (by decide) ⟨Nat.le_refl _, Nat.le_refl _⟩ (Nat.le_refl _) (Nat.le_of_ble_eq_true rfl) rfl dX5_stuck_51 ?_
          refine g_isub hX (pc := 54) dX5_stuck_54 ?_
          refine g_icmp_ne hX (pc := 55) dX5_stuck_55 (tgt := 64) (by decide) (fun c13 => ?_) (fun c13 => ?_)
          · replace h := ifP c13 h
            refine g_iconst hX (pc := 58) (v := 1) dX5_stuck_58 (by decide) ?_
            refine g_iload_n hX (pc := 59) (i := 2) dX5_stuck_59 rfl 2 rfl ?_
            refine g_ishl hX (pc := 60) dX5_stuck_60 ?_
            refine g_goto hX (pc := 61) (tgt := 65) dX5_stuck_61 (by decide) ?_
            exact Kj9 ((1 : Int32) <<< (s3 &&& 31)) (Option.some.inj h)
          · replace h := ifN c13 h
            refine g_iconst hX (pc := 64) (v := 0) dX5_stuck_64 (by decide) ?_
            exact Kj9 0 (Option.some.inj h)
        · replace h := ifN c8 h
          refine g_iconst hX (pc := 64) (v := 0) dX5_stuck_64 (by decide) ?_
          exact Kj9 0 (Option.some.inj h)
      · replace h := ifN c6 h
        obtain rfl := Option.some.inj h
        exact Kl4 ((s2, s3)) hwl4
  exact Ll4 kl4 0 0 hkl4
noncomputable def b_X5_needsBy_8 (o0 : Nat) (s : Int32 × MI) : Option ((Int32 × MI) ⊕ (Int32 × MI)) :=
  if s.1 < 16 then
    (wr 16 s.2 (o0 + 20) s.1 0).bind fun I5 =>
    some (.inl ((s.1 + 1, I5)))
  else
    some (.inr ((s.1, s.2)))
noncomputable def b_X5_needsBy_79 (o0 : Nat) (J : MJ) (v14 : Int32) (s21 : Int32) (s : Int32 × Int32 × Int32 × Int32 × MI) : Option ((Int32 × Int32 × Int32 × Int32 × MI) ⊕ (Int32 × Int32 × Int32 × Int32 × MI)) :=
  (rd 320 (s.2.2.2.2 (o0 + 12)) ((10 * s21) + v14)).bind fun v31 =>
  if s.2.2.2.1 < v31 then
    if 0 < s.2.2.1 then
      (f_X5_count1 (s.1 ||| ((1 : Int32) <<< (s21 &&& 31)))).bind fun r34 =>
      (if r34 < s.2.1 then
        some s.2.1
      else
        (f_X5_count1 (s.1 ||| ((1 : Int32) <<< (s21 &&& 31)))).bind fun r37 =>
        some r37).bind fun (p38 : Int32) =>
      (rd 16 (s.2.2.2.2 (o0 + 20)) s21).bind fun v39 =>
      (wr 16 s.2.2.2.2 (o0 + 20) s21 (v39 + 1)).bind fun I40 =>
      (rd 16 (I40 (o0 + 20)) s21).bind fun v41 =>
      (f_X5_needOf o0 s21 J I40).bind fun r42 =>
      (if v41 = r42 then
        (nm ((s.1 ||| ((1 : Int32) <<< (s21 &&& 31))) &&& (((1 : Int32) <<< (s21 &&& 31)) ^^^ ((-1))))).bind fun v45 =>
        some v45
      else
        some (s.1 ||| ((1 : Int32) <<< (s21 &&& 31)))).bind fun (p46 : Int32) =>
      some (.inl ((p46, p38, s.2.2.1 + (-1), s.2.2.2.1 + 1, I40)))
    else
      some (.inr ((s.1, s.2.1, s.2.2.1, s.2.2.2.1, s.2.2.2.2)))
  else
    some (.inr ((s.1, s.2.1, s.2.2.1, s.2.2.2.1, s.2.2.2.2)))
noncomputable def b_X5_needsBy_71 (o0 : Nat) (x1 : Int32) (J : MJ) (v14 : Int32) (s : Int32 × Int32 × Int32 × Int32 × MI) : Option ((Int32 × Int32 × Int32 × Int32 × MI) ⊕ (Int32 × Int32 × Int32 × Int32 × MI)) :=
  if s.2.2.2.1 < 0 then
    some (.inr ((s.1, s.2.1, s.2.2.1, s.2.2.2.1, s.2.2.2.2)))
  else
    (lp (b_X5_needsBy_79 o0 J v14 s.2.2.2.1) ((s.1, s.2.1, s.2.2.1, 0, s.2.2.2.2))).bind fun p47 =>
    (f_X5_earliestBehind o0 x1 s.2.2.2.1 J p47.2.2.2.2).bind fun r48 =>
    some (.inl ((p47.1, p47.2.1, p47.2.2.1, r48, p47.2.2.2.2)))
noncomputable def b_X5_needsBy_32 (o0 : Nat) (x1 : Int32) (o2 : Nat) (n2 : Nat) (J : MJ) (s : Int32 × Int32 × Int32 × MI) : Option ((Int32 × Int32 × Int32 × MI) ⊕ (Int32 × Int32 × Int32 × MI)) :=
  if s.2.2.1 < (s.2.2.2 o0 35) then
    (rd n2 (s.2.2.2 o2) s.2.2.1).bind fun v13 =>
    (rd 10 (s.2.2.2 (o0 + 18)) v13).bind fun v14 =>
    (rd n2 (s.2.2.2 o2) s.2.2.1).bind fun v15 =>
    (rd 10 (s.2.2.2 (o0 + 19)) v15).bind fun v16 =>
    (f_X5_earliestBehind o0 x1 ((-1)) J s.2.2.2).bind fun r17 =>
    (lp (b_X5_needsBy_71 o0 x1 J v14) ((s.1, s.2.1, v16, r17, s.2.2.2))).bind fun p49 =>
    some (.inl ((p49.1, p49.2.1, s.2.2.1 + 1, p49.2.2.2.2)))
  else
    some (.inr ((s.1, s.2.1, s.2.2.1, s.2.2.2)))
noncomputable def f_X5_needsBy (o0 : Nat) (x1 : Int32) (o2 n2 : Nat) (J : MJ) (I : MI) : Option (Int32 × MI) :=
  (lp (b_X5_needsBy_8 o0) ((0, I))).bind fun p6 =>
  (lp (b_X5_needsBy_32 o0 x1 o2 n2 J) ((0, 0, 0, p6.2))).bind fun p50 =>
  some ((p50.2.1, p50.2.2.2))
theorem nm_X5_needsBy : yX5_needsBy.cls ≠ "java/lang/invoke/MethodHandle" ∧ yX5_needsBy.cls ≠ "java/lang/invoke/VarHandle" ∧ (parseMethodDescriptor yX5_needsBy.desc).map (fun d => d.parameters.length) = some 2 := by decide +kernel
set_option maxRecDepth 100000 in
set_option maxHeartbeats 4000000 in
theorem ct_X5_needsBy {E : Ev} {d : Nat} {z : Sh} {J : MJ} {I : MI} {o0 : Nat} {x1 : Int32} {o2 n2 : Nat} {rr : Int32} {Iz : MI} (ho0 : oX5 z o0) (ha2 : o2 ∈ zL z ∧ zK z o2 = 7 ∧ zn z o2 = n2) (h : f_X5_needsBy o0 x1 o2 n2 J I = some ((rr, Iz))) : Ct E (d + 2) yX5_needsBy cX5_needsBy 10 (some .int) 0 0 [.ref o0, .int x1, .ref o2] z J I (some (.int rr)) z J Iz := by
  unfold f_X5_needsBy at h
  refine Ct.of (own := RX5) (ls := [(0, .ref o0), (1, .int x1), (2, .ref o2)]) (by decide) rfl (Nat.le_of_ble_eq_true rfl) rfl ?_
  intro X hr0 hnm hX
  refine g_iconst hX (pc := 0) (v := 0) dX5_needsBy_0 (by decide) ?_
  refine g_istore_n hX (pc := 1) (i := 3) (ls' := [(0, .ref o0), (1, .int x1), (2, .ref o2), (3, .int 0)]) [1, 2, 3, 0] dX5_needsBy_1 rfl (by decide) rfl ?_
  refine g_iconst hX (pc := 2) (v := 0) dX5_needsBy_2 (by decide) ?_
  refine g_istore hX (pc := 3) (ls' := [(0, .ref o0), (1, .int x1), (2, .ref o2), (3, .int 0), (4, .int 0)]) [1, 2, 3, 4, 0] dX5_needsBy_3 (by decide) rfl ?_
  refine g_iconst hX (pc := 5) (v := 0) dX5_needsBy_5 (by decide) ?_
  refine g_istore hX (pc := 6) (ls' := [(0, .ref o0), (1, .int x1), (2, .ref o2), (3, .int 0), (4, .int 0), (5, .int 0)]) [1, 2, 3, 4, 5, 0] dX5_needsBy_6 (by decide) rfl ?_
  obtain ⟨p6, hpl3, h⟩ := bnd h
  have Kl3 : ∀ ql3 : Int32 × MI, ql3 = p6 → GW E X (QX E X 0 0 (some (.int rr)) z J Iz) 10 29 [(0, .ref o0), (1, .int x1), (2, .ref o2), (3, .int 0), (4, .int 0), (5, .int ql3.1)] [] z J ql3.2 0 0 := by
    intro ql3 hql3
    subst hql3
    refine g_iconst hX (pc := 29) (v := 0) dX5_needsBy_29 (by decide) ?_
    refine g_istore hX (pc := 30) (ls' := [(0, .ref o0), (1, .int x1), (2, .ref o2), (3, .int 0), (4, .int 0), (5, .int 0)]) [1, 2, 3, 4, 5, 0] dX5_needsBy_30 (by decide) rfl ?_
    obtain ⟨p50, hpl11, h⟩ := bnd h
    have Kl11 : ∀ ql11 : Int32 × Int32 × Int32 × MI, ql11 = p50 → GW E X (QX E X 0 0 (some (.int rr)) z J Iz) 10 192 [(0, .ref o0), (1, .int x1), (2, .ref o2), (3, .int ql11.1), (4, .int ql11.2.1), (5, .int ql11.2.2.1)] [] z J ql11.2.2.2 0 0 := by
      intro ql11 hql11
      subst hql11
      refine g_iload hX (pc := 192) dX5_needsBy_192 4 rfl ?_
      replace h := Option.some.inj h
      obtain ⟨rfl, rfl⟩ := Prod.mk.inj h
      exact g_ireturn hX (Nat.le_refl _) (Nat.le_refl _) dX5_needsBy_194
    obtain ⟨kl11, hkl11⟩ := lp_ex hpl11
    clear hpl11 h
    have Ll11 : ∀ k : Nat, ∀ (s7 : Int32) (s8 : Int32) (s9 : Int32) (I10 : MI), lpN k (b_X5_needsBy_32 o0 x1 o2 n2 J) ((s7, s8, s9, I10)) = some p50 → GW E X (QX E X 0 0 (some (.int rr)) z J Iz) 10 32 [(0, .ref o0), (1, .int x1), (2, .ref o2), (3, .int s7), (4, .int s8), (5, .int s9)] [] z J I10 0 0 := by
      intro k
      induction k with
      | zero => intro s7 s8 s9 I10 h; cases h
      | succ k ihl11 =>
        intro s7 s8 s9 I10 h
        obtain ⟨wl11, h, hwl11⟩ := lpN_s h
        unfold b_X5_needsBy_32 at h
        try dsimp only at h
        refine g_iload hX (pc := 32) dX5_needsBy_32 5 rfl ?_
        refine g_aload_n hX (pc := 34) (i := 0) dX5_needsBy_34 rfl 0 rfl ?_
        refine gf5_35 hX (pc := 35) ho0 fl_X5_272 dX5_needsBy_35 ?_
        refine g_icmp_ge hX (pc := 38) dX5_needsBy_38 (tgt := 192) (by decide) (fun c12 => ?_) (fun c12 => ?_)
        · replace h := ifP c12 h
          refine g_aload_n hX (pc := 41) (i := 0) dX5_needsBy_41 rfl 0 rfl ?_
          refine gf5_33 hX (pc := 42) ho0 fl_X5_64 dX5_needsBy_42 ?_
          refine g_aload_n hX (pc := 45) (i := 2) dX5_needsBy_45 rfl 2 rfl ?_
          refine g_iload hX (pc := 46) dX5_needsBy_46 5 rfl ?_
          obtain ⟨v13, e_v13, h⟩ := bnd h
          refine g_ialoadE hX (pc := 48) ha2.1 ha2.2.1 ha2.2.2 e_v13 dX5_needsBy_48 ?_
          obtain ⟨v14, e_v14, h⟩ := bnd h
          refine g_ialoadE hX (pc := 49) (s5_33 ho0).1 (s5_33 ho0).2.1 (s5_33 ho0).2.2.1 e_v14 dX5_needsBy_49 ?_
          refine g_istore hX (pc := 50) (ls' := [(0, .ref o0), (1, .int x1), (2, .ref o2), (3, .int s7), (4, .int s8), (5, .int s9), (6, .int v14)]) [1, 2, 3, 4, 5, 6, 0] dX5_needsBy_50 (by decide) rfl ?_
          refine g_aload_n hX (pc := 52) (i := 0) dX5_needsBy_52 rfl 0 rfl ?_
          refine gf5_34 hX (pc := 53) ho0 fl_X5_67 dX5_needsBy_53 ?_
          refine g_aload_n hX (pc := 56) (i := 2) dX5_needsBy_56 rfl 2 rfl ?_
          refine g_iload hX (pc := 57) dX5_needsBy_57 5 rfl ?_
          obtain ⟨v15, e_v15, h⟩ := bnd h
          refine g_ialoadE hX (pc := 59) ha2.1 ha2.2.1 ha2.2.2 e_v15 dX5_needsBy_59 ?_
          obtain ⟨v16, e_v16, h⟩ := bnd h
          refine g_ialoadE hX (pc := 60) (s5_34 ho0).1 (s5_34 ho0).2.1 (s5_34 ho0).2.2.1 e_v16 dX5_needsBy_60 ?_
          refine g_istore hX (pc := 61) (ls' := [(0, .ref o0), (1, .int x1), (2, .ref o2), (3, .int s7), (4, .int s8), (5, .int s9), (6, .int v14), (7, .int v16)]) [1, 2, 3, 4, 5, 6, 7, 0] dX5_needsBy_61 (by decide) rfl ?_
          refine g_aload_n hX (pc := 63) (i := 0) dX5_needsBy_63 rfl 0 rfl ?_
          refine g_iload_n hX (pc := 64) (i := 1) dX5_needsBy_64 rfl 1 rfl ?_
          refine g_iconst hX (pc := 65) (v := (-1)) dX5_needsBy_65 (by decide) ?_
          obtain ⟨r17, e_r17, h⟩ := bnd h
          refine g_callVi hX (pc := 66) (d := d + 1) hr0 [.int x1, .int ((-1))] (c := 5) (ct_X5_earliestBehind (d := d + 0) ho0 e_r17) ho0.1.1 ho0.1.2 (by decide) rfl co_X5_earliestBehind ml_X5_287 im_X5_earliestBehind sl_X5_earliestBehind ini_X5 nm_X5_earliestBehind (by decide) ⟨Nat.le_refl _, Nat.le_refl _⟩ (Nat.le_refl _) (Nat.le_of_ble_eq_true rfl) rfl dX5_needsBy_66 ?_
          refine g_istore hX (pc := 69) (ls' := [(0, .ref o0), (1, .int x1), (2, .ref o2), (3, .int s7), (4, .int s8), (5, .int s9), (6, .int v14), (7, .int v16), (8, .int r17)]) [1, 2, 3, 4, 5, 6, 7, 8, 0] dX5_needsBy_69 (by decide) rfl ?_
          obtain ⟨p49, hpl23, h⟩ := bnd h
          have Kl23 : ∀ ql23 : Int32 × Int32 × Int32 × Int32 × MI, ql23 = p49 → GW E X (QX E X 0 0 (some (.int rr)) z J Iz) 10 186 [(0, .ref o0), (1, .int x1), (2, .ref o2), (3, .int ql23.1), (4, .int ql23.2.1), (5, .int s9), (6, .int v14), (7, .int ql23.2.2.1), (8, .int ql23.2.2.2.1)] [] z J ql23.2.2.2.2 0 0 := by
            intro ql23 hql23
            subst hql23
            refine g_iinc hX (pc := 186) (i := 5) (v := s9 + 1) (ls' := [(0, .ref o0), (1, .int x1), (2, .ref o2), (3, .int ql23.1), (4, .int ql23.2.1), (5, .int (s9 + 1)), (6, .int v14), (7, .int ql23.2.2.1), (8, .int ql23.2.2.2.1)]) 5 [1, 2, 3, 4, 5, 0, 6, 7, 8] dX5_needsBy_186 rfl (by rfl) (by decide) rfl ?_
            refine g_goto hX (pc := 189) (tgt := 32) dX5_needsBy_189 (by decide) ?_
            refine g_sub (ls' := [(0, .ref o0), (1, .int x1), (2, .ref o2), (3, .int ql23.1), (4, .int ql23.2.1), (5, .int (s9 + 1))]) [0, 1, 2, 3, 4, 5] rfl ?_
            obtain rfl := Option.some.inj h
            exact ihl11 ql23.1 ql23.2.1 (s9 + 1) ql23.2.2.2.2 hwl11
          obtain ⟨kl23, hkl23⟩ := lp_ex hpl23
          clear hpl23 h
          have Ll23 : ∀ k : Nat, ∀ (s18 : Int32) (s19 : Int32) (s20 : Int32) (s21 : Int32) (I22 : MI), lpN k (b_X5_needsBy_71 o0 x1 J v14) ((s18, s19, s20, s21, I22)) = some p49 → GW E X (QX E X 0 0 (some (.int rr)) z J Iz) 10 71 [(0, .ref o0), (1, .int x1), (2, .ref o2), (3, .int s18), (4, .int s19), (5, .int s9), (6, .int v14), (7, .int s20), (8, .int s21)] [] z J I22 0 0 := by
            intro k
            induction k with
            | zero => intro s18 s19 s20 s21 I22 h; cases h
            | succ k ihl23 =>
              intro s18 s19 s20 s21 I22 h
              obtain ⟨wl23, h, hwl23⟩ := lpN_s h
              unfold b_X5_needsBy_71 at h
              try dsimp only at h
              refine g_iload hX (pc := 71) dX5_needsBy_71 8 rfl ?_
              refine g_if_lt hX (pc := 73) dX5_needsBy_73 (tgt := 186) (by decide) (fun c24 => ?_) (fun c24 => ?_)
              · replace h := ifP c24 h
                obtain rfl := Option.some.inj h
                exact Kl23 ((s18, s19, s20, s21, I22)) hwl23
              · replace h := ifN c24 h
                refine g_iconst hX (pc := 76) (v := 0) dX5_needsBy_76 (by decide) ?_
                refine g_istore hX (pc := 77) (ls' := [(0, .ref o0), (1, .int x1), (2, .ref o2), (3, .int s18), (4, .int s19), (5, .int s9), (6, .int v14), (7, .int s20), (8, .int s21), (9, .int 0)]) [1, 2, 3, 4, 5, 6, 7, 8, 9, 0] dX5_needsBy_77 (by decide) rfl ?_
                obtain ⟨p47, hpl30, h⟩ := bnd h
                have Kl30 : ∀ ql30 : Int32 × Int32 × Int32 × Int32 × MI, ql30 = p47 → GW E X (QX E X 0 0 (some (.int rr)) z J Iz) 10 174 [(0, .ref o0), (1, .int x1), (2, .ref o2), (3, .int ql30.1), (4, .int ql30.2.1), (5, .int s9), (6, .int v14), (7, .int ql30.2.2.1), (8, .int s21), (9, .int ql30.2.2.2.1)] [] z J ql30.2.2.2.2 0 0 := by
                  intro ql30 hql30
                  subst hql30
                  refine g_aload_n hX (pc := 174) (i := 0) dX5_needsBy_174 rfl 0 rfl ?_
                  refine g_iload_n hX (pc := 175) (i := 1) dX5_needsBy_175 rfl 1 rfl ?_
                  refine g_iload hX (pc := 176) dX5_needsBy_176 8 rfl ?_
                  obtain ⟨r48, e_r48, h⟩ := bnd h
                  refine g_callVi hX (pc := 178) (d := d + 1) hr0 [.int x1, .int s21] (c := 5) (ct_X5_earliestBehind (d := d + 0) ho0 e_r48) ho0.1.1 ho0.1.2 (by decide) rfl co_X5_earliestBehind ml_X5_287 im_X5_earliestBehind sl_X5_earliestBehind ini_X5 nm_X5_earliestBehind (by decide) ⟨Nat.le_refl _, Nat.le_refl _⟩ (Nat.le_refl _) (Nat.le_of_ble_eq_true rfl) rfl dX5_needsBy_178 ?_
                  refine g_istore hX (pc := 181) (ls' := [(0, .ref o0), (1, .int x1), (2, .ref o2), (3, .int ql30.1), (4, .int ql30.2.1), (5, .int s9), (6, .int v14), (7, .int ql30.2.2.1), (8, .int r48), (9, .int ql30.2.2.2.1)]) [1, 2, 3, 4, 5, 6, 7, 8, 0, 9] dX5_needsBy_181 (by decide) rfl ?_
                  refine g_goto hX (pc := 183) (tgt := 71) dX5_needsBy_183 (by decide) ?_
                  refine g_sub (ls' := [(0, .ref o0), (1, .int x1), (2, .ref o2), (3, .int ql30.1), (4, .int ql30.2.1), (5, .int s9), (6, .int v14), (7, .int ql30.2.2.1), (8, .int r48)]) [0, 1, 2, 3, 4, 5, 6, 7, 8] rfl ?_
                  obtain rfl := Option.some.inj h
                  exact ihl23 ql30.1 ql30.2.1 ql30.2.2.1 r48 ql30.2.2.2.2 hwl23
                obtain ⟨kl30, hkl30⟩ := lp_ex hpl30
                clear hpl30 h
                have Ll30 : ∀ k : Nat, ∀ (s25 : Int32) (s26 : Int32) (s27 : Int32) (s28 : Int32) (I29 : MI), lpN k (b_X5_needsBy_79 o0 J v14 s21) ((s25, s26, s27, s28, I29)) = some p47 → GW E X (QX E X 0 0 (some (.int rr)) z J Iz) 10 79 [(0, .ref o0), (1, .int x1), (2, .ref o2), (3, .int s25), (4, .int s26), (5, .int s9), (6, .int v14), (7, .int s27), (8, .int s21), (9, .int s28)] [] z J I29 0 0 := by
                  intro k
                  induction k with
                  | zero => intro s25 s26 s27 s28 I29 h; cases h
                  | succ k ihl30 =>
                    intro s25 s26 s27 s28 I29 h
                    obtain ⟨wl30, h, hwl30⟩ := lpN_s h
                    unfold b_X5_needsBy_79 at h
                    try dsimp only at h
                    refine g_iload hX (pc := 79) dX5_needsBy_79 9 rfl ?_
                    refine g_aload_n hX (pc := 81) (i := 0) dX5_needsBy_81 rfl 0 rfl ?_
                    refine gf5_23 hX (pc := 82) ho0 fl_X5_45 dX5_needsBy_82 ?_
                    refine g_bipush hX (pc := 85) (v := 10) dX5_needsBy_85 (by decide) ?_
                    refine g_iload hX (pc := 87) dX5_needsBy_87 8 rfl ?_
                    refine g_imul hX (pc := 89) dX5_needsBy_89 ?_
                    refine g_iload hX (pc := 90) dX5_needsBy_90 6 rfl ?_
                    refine g_iadd hX (pc := 92) dX5_needsBy_92 ?_
                    obtain ⟨v31, e_v31, h⟩ := bnd h
                    refine g_ialoadE hX (pc := 93) (s5_23 ho0).1 (s5_23 ho0).2.1 (s5_23 ho0).2.2.1 e_v31 dX5_needsBy_93 ?_
                    refine g_icmp_ge hX (pc := 94) dX5_needsBy_94 (tgt := 174) (by decide) (fun c32 => ?_) (fun c32 => ?_)
                    · replace h := ifP c32 h
                      refine g_iload hX (pc := 97) dX5_needsBy_97 7 rfl ?_
                      refine g_if_le hX (pc := 99) dX5_needsBy_99 (tgt := 174) (by decide) (fun c33 => ?_) (fun c33 => ?_)
                      · replace h := ifP c33 h
                        refine g_iinc hX (pc := 102) (i := 7) (v := s27 + (-1)) (ls' := [(0, .ref o0), (1, .int x1), (2, .ref o2), (3, .int s25), (4, .int s26), (5, .int s9), (6, .int v14), (7, .int (s27 + (-1))), (8, .int s21), (9, .int s28)]) 7 [1, 2, 3, 4, 5, 6, 7, 0, 8, 9] dX5_needsBy_102 rfl (by rfl) (by decide) rfl ?_
                        refine g_iload_n hX (pc := 105) (i := 3) dX5_needsBy_105 rfl 3 rfl ?_
                        refine g_iconst hX (pc := 106) (v := 1) dX5_needsBy_106 (by decide) ?_
                        refine g_iload hX (pc := 107) dX5_needsBy_107 8 rfl ?_
                        refine g_ishl hX (pc := 109) dX5_needsBy_109 ?_
                        refine g_ior hX (pc := 110) dX5_needsBy_110 ?_
                        refine g_istore_n hX (pc := 111) (i := 3) (ls' := [(0, .ref o0), (1, .int x1), (2, .ref o2), (3, .int (s25 ||| ((1 : Int32) <<< (s21 &&& 31)))), (4, .int s26), (5, .int s9), (6, .int v14), (7, .int (s27 + (-1))), (8, .int s21), (9, .int s28)]) [1, 2, 3, 0, 4, 5, 6, 7, 8, 9] dX5_needsBy_111 rfl (by decide) rfl ?_
                        refine g_iload hX (pc := 112) dX5_needsBy_112 4 rfl ?_
                        refine g_iload_n hX (pc := 114) (i := 3) dX5_needsBy_114 rfl 3 rfl ?_
                        obtain ⟨r34, e_r34, h⟩ := bnd h
                        refine g_callSi hX (pc := 115) (d := d + 1) hr0 [.int (s25 ||| ((1 : Int32) <<< (s21 &&& 31)))] (ct_X5_count1 (d := d + 1)  e_r34) co_X5_count1 ml_X5_253 sta_X5_count1 ini_X5 nm_X5_count1 (by decide) ⟨Nat.le_refl _, Nat.le_refl _⟩ (Nat.le_refl _) (Nat.le_of_ble_eq_true rfl) rfl dX5_needsBy_115 ?_
                        obtain ⟨p38, hpj36, h⟩ := bnd h
                        have Kj36 : ∀ qj36 : Int32, qj36 = p38 → GW E X (QX E X 0 0 (some (.int rr)) z J Iz) 10 130 [(0, .ref o0), (1, .int x1), (2, .ref o2), (3, .int (s25 ||| ((1 : Int32) <<< (s21 &&& 31)))), (4, .int s26), (5, .int s9), (6, .int v14), (7, .int (s27 + (-1))), (8, .int s21), (9, .int s28)] [.int qj36] z J I29 0 0 := by
                          intro qj36 hqj36
                          subst hqj36
                          refine g_istore hX (pc := 130) (ls' := [(0, .ref o0), (1, .int x1), (2, .ref o2), (3, .int (s25 ||| ((1 : Int32) <<< (s21 &&& 31)))), (4, .int qj36), (5, .int s9), (6, .int v14), (7, .int (s27 + (-1))), (8, .int s21), (9, .int s28)]) [1, 2, 3, 4, 0, 5, 6, 7, 8, 9] dX5_needsBy_130 (by decide) rfl ?_
                          refine g_aload_n hX (pc := 132) (i := 0) dX5_needsBy_132 rfl 0 rfl ?_
                          refine gf5_36 hX (pc := 133) ho0 fl_X5_70 dX5_needsBy_133 ?_
                          refine g_iload hX (pc := 136) dX5_needsBy_136 8 rfl ?_
                          refine g_dup2 hX (pc := 138) dX5_needsBy_138 rfl rfl ?_
                          obtain ⟨v39, e_v39, h⟩ := bnd h
                          refine g_ialoadE hX (pc := 139) (s5_36 ho0).1 (s5_36 ho0).2.1 (s5_36 ho0).2.2.1 e_v39 dX5_needsBy_139 ?_
                          refine g_iconst hX (pc := 140) (v := 1) dX5_needsBy_140 (by decide) ?_
                          refine g_iadd hX (pc := 141) dX5_needsBy_141 ?_
                          obtain ⟨I40, e_I40, h⟩ := bnd h
                          refine g_iastoreE hX (pc := 142) (s5_36 ho0).1 (s5_36 ho0).2.1 (s5_36 ho0).2.2.1 e_I40 dX5_needsBy_142 ?_
                          refine g_aload_n hX (pc := 143) (i := 0) dX5_needsBy_143 rfl 0 rfl ?_
                          refine gf5_36 hX (pc := 144) ho0 fl_X5_70 dX5_needsBy_144 ?_
                          refine g_iload hX (pc := 147) dX5_needsBy_147 8 rfl ?_
                          obtain ⟨v41, e_v41, h⟩ := bnd h
                          refine g_ialoadE hX (pc := 149) (s5_36 ho0).1 (s5_36 ho0).2.1 (s5_36 ho0).2.2.1 e_v41 dX5_needsBy_149 ?_
                          refine g_aload_n hX (pc := 150) (i := 0) dX5_needsBy_150 rfl 0 rfl ?_
                          refine g_iload hX (pc := 151) dX5_needsBy_151 8 rfl ?_
                          obtain ⟨r42, e_r42, h⟩ := bnd h
                          refine g_callVi hX (pc := 153) (d := d + 1) hr0 [.int s21] (c := 5) (ct_X5_needOf (d := d + 1) ho0 e_r42) ho0.1.1 ho0.1.2 (by decide) rfl co_X5_needOf ml_X5_237 im_X5_needOf sl_X5_needOf ini_X5 nm_X5_needOf (by decide) ⟨Nat.le_refl _, Nat.le_refl _⟩ (Nat.le_refl _) (Nat.le_of_ble_eq_true rfl) rfl dX5_needsBy_153 ?_
                          obtain ⟨p46, hpj44, h⟩ := bnd h
                          have Kj44 : ∀ qj44 : Int32, qj44 = p46 → GW E X (QX E X 0 0 (some (.int rr)) z J Iz) 10 168 [(0, .ref o0), (1, .int x1), (2, .ref o2), (3, .int qj44), (4, .int qj36), (5, .int s9), (6, .int v14), (7, .int (s27 + (-1))), (8, .int s21), (9, .int s28)] [] z J I40 0 0 := by
                            intro qj44 hqj44
                            subst hqj44
                            refine g_iinc hX (pc := 168) (i := 9) (v := s28 + 1) (ls' := [(0, .ref o0), (1, .int x1), (2, .ref o2), (3, .int qj44), (4, .int qj36), (5, .int s9), (6, .int v14), (7, .int (s27 + (-1))), (8, .int s21), (9, .int (s28 + 1))]) 9 [1, 2, 3, 4, 5, 6, 7, 8, 9, 0] dX5_needsBy_168 rfl (by rfl) (by decide) rfl ?_
                            refine g_goto hX (pc := 171) (tgt := 79) dX5_needsBy_171 (by decide) ?_
                            obtain rfl := Option.some.inj h
                            exact ihl30 qj44 qj36 (s27 + (-1)) (s28 + 1) I40 hwl30
                          replace h := hpj44
                          clear hpj44
                          refine g_icmp_ne hX (pc := 156) dX5_needsBy_156 (tgt := 168) (by decide) (fun c43 => ?_) (fun c43 => ?_)
                          · replace h := ifP c43 h
                            refine g_iload_n hX (pc := 159) (i := 3) dX5_needsBy_159 rfl 3 rfl ?_
                            refine g_iconst hX (pc := 160) (v := 1) dX5_needsBy_160 (by decide) ?_
                            refine g_iload hX (pc := 161) dX5_needsBy_161 8 rfl ?_
                            refine g_ishl hX (pc := 163) dX5_needsBy_163 ?_
                            refine g_iconst hX (pc := 164) (v := (-1)) dX5_needsBy_164 (by decide) ?_
                            refine g_ixor hX (pc := 165) dX5_needsBy_165 ?_
                            refine g_iand hX (pc := 166) dX5_needsBy_166 ?_
                            obtain ⟨v45, e_v45, h⟩ := bnd h
                            refine g_nmi e_v45 ?_
                            refine g_istore_n hX (pc := 167) (i := 3) (ls' := [(0, .ref o0), (1, .int x1), (2, .ref o2), (3, .int v45), (4, .int qj36), (5, .int s9), (6, .int v14), (7, .int (s27 + (-1))), (8, .int s21), (9, .int s28)]) [1, 2, 3, 0, 4, 5, 6, 7, 8, 9] dX5_needsBy_167 rfl (by decide) rfl ?_
                            exact Kj44 v45 (Option.some.inj h)
                          · replace h := ifN c43 h
                            exact Kj44 (s25 ||| ((1 : Int32) <<< (s21 &&& 31))) (Option.some.inj h)
                        replace h := hpj36
                        clear hpj36
                        refine g_icmp_le hX (pc := 118) dX5_needsBy_118 (tgt := 126) (by decide) (fun c35 => ?_) (fun c35 => ?_)
                        · replace h := ifP c35 h
                          refine g_iload hX (pc := 121) dX5_needsBy_121 4 rfl ?_
                          refine g_goto hX (pc := 123) (tgt := 130) dX5_needsBy_123 (by decide) ?_
                          exact Kj36 s26 (Option.some.inj h)
                        · replace h := ifN c35 h
                          refine g_iload_n hX (pc := 126) (i := 3) dX5_needsBy_126 rfl 3 rfl ?_
                          obtain ⟨r37, e_r37, h⟩ := bnd h
                          refine g_callSi hX (pc := 127) (d := d + 1) hr0 [.int (s25 ||| ((1 : Int32) <<< (s21 &&& 31)))] (ct_X5_count1 (d := d + 1)  e_r37) co_X5_count1 ml_X5_253 sta_X5_count1 ini_X5 nm_X5_count1 (by decide) ⟨Nat.le_refl _, Nat.le_refl _⟩ (Nat.le_refl _) (Nat.le_of_ble_eq_true rfl) rfl dX5_needsBy_127 ?_
                          exact Kj36 r37 (Option.some.inj h)
                      · replace h := ifN c33 h
                        obtain rfl := Option.some.inj h
                        exact Kl30 ((s25, s26, s27, s28, I29)) hwl30
                    · replace h := ifN c32 h
                      obtain rfl := Option.some.inj h
                      exact Kl30 ((s25, s26, s27, s28, I29)) hwl30
                exact Ll30 kl30 s18 s19 s20 0 I22 hkl30
          exact Ll23 kl23 s7 s8 v16 r17 I10 hkl23
        · replace h := ifN c12 h
          obtain rfl := Option.some.inj h
          exact Kl11 ((s7, s8, s9, I10)) hwl11
    exact Ll11 kl11 0 0 0 ql3.2 hkl11
  obtain ⟨kl3, hkl3⟩ := lp_ex hpl3
  clear hpl3 h
  have Ll3 : ∀ k : Nat, ∀ (s1 : Int32) (I2 : MI), lpN k (b_X5_needsBy_8 o0) ((s1, I2)) = some p6 → GW E X (QX E X 0 0 (some (.int rr)) z J Iz) 10 8 [(0, .ref o0), (1, .int x1), (2, .ref o2), (3, .int 0), (4, .int 0), (5, .int s1)] [] z J I2 0 0 := by
    intro k
    induction k with
    | zero => intro s1 I2 h; cases h
    | succ k ihl3 =>
      intro s1 I2 h
      obtain ⟨wl3, h, hwl3⟩ := lpN_s h
      unfold b_X5_needsBy_8 at h
      try dsimp only at h
      refine g_iload hX (pc := 8) dX5_needsBy_8 5 rfl ?_
      refine g_bipush hX (pc := 10) (v := 16) dX5_needsBy_10 (by decide) ?_
      refine g_icmp_ge hX (pc := 12) dX5_needsBy_12 (tgt := 29) (by decide) (fun c4 => ?_) (fun c4 => ?_)
      · replace h := ifP c4 h
        refine g_aload_n hX (pc := 15) (i := 0) dX5_needsBy_15 rfl 0 rfl ?_
        refine gf5_36 hX (pc := 16) ho0 fl_X5_70 dX5_needsBy_16 ?_
        refine g_iload hX (pc := 19) dX5_needsBy_19 5 rfl ?_
        refine g_iconst hX (pc := 21) (v := 0) dX5_needsBy_21 (by decide) ?_
        obtain ⟨I5, e_I5, h⟩ := bnd h
        refine g_iastoreE hX (pc := 22) (s5_36 ho0).1 (s5_36 ho0).2.1 (s5_36 ho0).2.2.1 e_I5 dX5_needsBy_22 ?_
        refine g_iinc hX (pc := 23) (i := 5) (v := s1 + 1) (ls' := [(0, .ref o0), (1, .int x1), (2, .ref o2), (3, .int 0), (4, .int 0), (5, .int (s1 + 1))]) 5 [1, 2, 3, 4, 5, 0] dX5_needsBy_23 rfl (by rfl) (by decide) rfl ?_
        refine g_goto hX (pc := 26) (tgt := 8) dX5_needsBy_26 (by decide) ?_
        obtain rfl := Option.some.inj h
        exact ihl3 (s1 + 1) I5 hwl3
      · replace h := ifN c4 h
        obtain rfl := Option.some.inj h
        exact Kl3 ((s1, I2)) hwl3
  exact Ll3 kl3 0 I hkl3
