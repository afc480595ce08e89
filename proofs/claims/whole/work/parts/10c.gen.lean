noncomputable def f_X4_belt (o0 t0 u0 : Nat) (x1 : Int32) (x2 : Int32) (I : MI) : Option (Int32) :=
  if x1 = ((-1)) then
    (f_X0_onBelt (o0 + 23) I).bind fun r2 =>
    some r2
  else
    if x1 < 0 then
      some ((-2))
    else
      (f_X0_onBelt (o0 + 23) I).bind fun r4 =>
      if x1 < r4 then
        (rd 864 (I (o0 + 23 + 8)) ((I (o0 + 23) 9) + x1)).bind fun v6 =>
        (f_X4_partOfUnit v6 x2).bind fun r7 =>
        some r7
      else
        some ((-2))
theorem nm_X4_belt : yX4_belt.cls ≠ "java/lang/invoke/MethodHandle" ∧ yX4_belt.cls ≠ "java/lang/invoke/VarHandle" ∧ (parseMethodDescriptor yX4_belt.desc).map (fun d => d.parameters.length) = some 2 := by decide +kernel
set_option maxRecDepth 100000 in
set_option maxHeartbeats 4000000 in
theorem ct_X4_belt {E : Ev} {d : Nat} {z : Sh} {J : MJ} {I : MI} {o0 t0 u0 : Nat} {x1 : Int32} {x2 : Int32} {rr : Int32} (ho0 : oX4 z o0 t0 u0) (h : f_X4_belt o0 t0 u0 x1 x2 I = some rr) : Ct E (d + 2) yX4_belt cX4_belt 3 (some .int) 0 0 [.ref o0, .int x1, .int x2] z J I (some (.int rr)) z J I := by
  unfold f_X4_belt at h
  refine Ct.of (own := RX4) (ls := [(0, .ref o0), (1, .int x1), (2, .int x2)]) (by decide) rfl (Nat.le_of_ble_eq_true rfl) rfl ?_
  intro X hr0 hnm hX
  refine g_iload_n hX (pc := 0) (i := 1) dX4_belt_0 rfl 1 rfl ?_
  refine g_iconst hX (pc := 1) (v := (-1)) dX4_belt_1 (by decide) ?_
  refine g_icmp_ne hX (pc := 2) dX4_belt_2 (tgt := 13) (by decide) (fun c1 => ?_) (fun c1 => ?_)
  · replace h := ifP c1 h
    refine g_aload_n hX (pc := 5) (i := 0) dX4_belt_5 rfl 0 rfl ?_
    refine gf4_5 hX (pc := 6) ho0 fl_X4_37 dX4_belt_6 ?_
    obtain ⟨r2, e_r2, h⟩ := bnd h
    refine g_callVi hX (pc := 9) (d := d + 1) hr0 [] (c := 0) (ct_X0_onBelt (d := d + 1) (s4_5 ho0).1 e_r2) (s4_5 ho0).1.1.1 (s4_5 ho0).1.1.2 (by decide) rfl co_X0_onBelt ml_X4_179 im_X0_onBelt sl_X0_onBelt ini_X0 nm_X0_onBelt (by decide) ⟨Nat.le_refl _, Nat.le_refl _⟩ (Nat.le_refl _) (Nat.le_of_ble_eq_true rfl) rfl dX4_belt_9 ?_
    obtain rfl := Option.some.inj h
    exact g_ireturn hX (Nat.le_refl _) (Nat.le_refl _) dX4_belt_12
  · replace h := ifN c1 h
    refine g_iload_n hX (pc := 13) (i := 1) dX4_belt_13 rfl 1 rfl ?_
    refine g_if_lt hX (pc := 14) dX4_belt_14 (tgt := 28) (by decide) (fun c3 => ?_) (fun c3 => ?_)
    · replace h := ifP c3 h
      refine g_bipush hX (pc := 28) (v := (-2)) dX4_belt_28 (by decide) ?_
      obtain rfl := Option.some.inj h
      exact g_ireturn hX (Nat.le_refl _) (Nat.le_refl _) dX4_belt_30
    · replace h := ifN c3 h
      refine g_iload_n hX (pc := 17) (i := 1) dX4_belt_17 rfl 1 rfl ?_
      refine g_aload_n hX (pc := 18) (i := 0) dX4_belt_18 rfl 0 rfl ?_
      refine gf4_5 hX (pc := 19) ho0 fl_X4_37 dX4_belt_19 ?_
      obtain ⟨r4, e_r4, h⟩ := bnd h
      refine g_callVi hX (pc := 22) (d := d + 1) hr0 [] (c := 0) (ct_X0_onBelt (d := d + 1) (s4_5 ho0).1 e_r4) (s4_5 ho0).1.1.1 (s4_5 ho0).1.1.2 (by decide) rfl co_X0_onBelt ml_X4_179 im_X0_onBelt sl_X0_onBelt ini_X0 nm_X0_onBelt (by decide) ⟨Nat.le_refl _, Nat.le_refl _⟩ (Nat.le_refl _) (Nat.le_of_ble_eq_true rfl) rfl dX4_belt_22 ?_
      refine g_icmp_lt hX (pc := 25) dX4_belt_25 (tgt := 31) (by decide) (fun c5 => ?_) (fun c5 => ?_)
      · replace h := ifP c5 h
        refine g_aload_n hX (pc := 31) (i := 0) dX4_belt_31 rfl 0 rfl ?_
        refine gf4_5 hX (pc := 32) ho0 fl_X4_37 dX4_belt_32 ?_
        refine gf0_8 hX (pc := 35) (s4_5 ho0).1 fl_X4_194 dX4_belt_35 ?_
        refine g_aload_n hX (pc := 38) (i := 0) dX4_belt_38 rfl 0 rfl ?_
        refine gf4_5 hX (pc := 39) ho0 fl_X4_37 dX4_belt_39 ?_
        refine gf0_9 hX (pc := 42) (s4_5 ho0).1 fl_X4_197 dX4_belt_42 ?_
        refine g_iload_n hX (pc := 45) (i := 1) dX4_belt_45 rfl 1 rfl ?_
        refine g_iadd hX (pc := 46) dX4_belt_46 ?_
        obtain ⟨v6, e_v6, h⟩ := bnd h
        refine g_ialoadE hX (pc := 47) (s0_8 (s4_5 ho0).1).1 (s0_8 (s4_5 ho0).1).2.1 (s0_8 (s4_5 ho0).1).2.2.1 e_v6 dX4_belt_47 ?_
        refine g_iload_n hX (pc := 48) (i := 2) dX4_belt_48 rfl 2 rfl ?_
        obtain ⟨r7, e_r7, h⟩ := bnd h
        refine g_callSi hX (pc := 49) (d := d + 1) hr0 [.int v6, .int x2] (ct_X4_partOfUnit (d := d + 0)  e_r7) co_X4_partOfUnit ml_X4_200 sta_X4_partOfUnit ini_X4 nm_X4_partOfUnit (by decide) ⟨Nat.le_refl _, Nat.le_refl _⟩ (Nat.le_refl _) (Nat.le_of_ble_eq_true rfl) rfl dX4_belt_49 ?_
        obtain rfl := Option.some.inj h
        exact g_ireturn hX (Nat.le_refl _) (Nat.le_refl _) dX4_belt_52
      · replace h := ifN c5 h
        refine g_bipush hX (pc := 28) (v := (-2)) dX4_belt_28 (by decide) ?_
        obtain rfl := Option.some.inj h
        exact g_ireturn hX (Nat.le_refl _) (Nat.le_refl _) dX4_belt_30
noncomputable def f_X4_aside (o0 t0 u0 : Nat) (x1 : Int32) (x2 : Int32) (I : MI) : Option (Int32) :=
  if x1 = ((-1)) then
    some (I (o0 + 23) 12)
  else
    if x1 < 0 then
      some ((-2))
    else
      if x1 < (I (o0 + 23) 12) then
        (rd 864 (I (o0 + 23 + 9)) x1).bind fun v4 =>
        (f_X4_partOfUnit v4 x2).bind fun r5 =>
        some r5
      else
        some ((-2))
theorem nm_X4_aside : yX4_aside.cls ≠ "java/lang/invoke/MethodHandle" ∧ yX4_aside.cls ≠ "java/lang/invoke/VarHandle" ∧ (parseMethodDescriptor yX4_aside.desc).map (fun d => d.parameters.length) = some 2 := by decide +kernel
set_option maxRecDepth 100000 in
set_option maxHeartbeats 4000000 in
theorem ct_X4_aside {E : Ev} {d : Nat} {z : Sh} {J : MJ} {I : MI} {o0 t0 u0 : Nat} {x1 : Int32} {x2 : Int32} {rr : Int32} (ho0 : oX4 z o0 t0 u0) (h : f_X4_aside o0 t0 u0 x1 x2 I = some rr) : Ct E (d + 2) yX4_aside cX4_aside 3 (some .int) 0 0 [.ref o0, .int x1, .int x2] z J I (some (.int rr)) z J I := by
  unfold f_X4_aside at h
  refine Ct.of (own := RX4) (ls := [(0, .ref o0), (1, .int x1), (2, .int x2)]) (by decide) rfl (Nat.le_of_ble_eq_true rfl) rfl ?_
  intro X hr0 hnm hX
  refine g_iload_n hX (pc := 0) (i := 1) dX4_aside_0 rfl 1 rfl ?_
  refine g_iconst hX (pc := 1) (v := (-1)) dX4_aside_1 (by decide) ?_
  refine g_icmp_ne hX (pc := 2) dX4_aside_2 (tgt := 13) (by decide) (fun c1 => ?_) (fun c1 => ?_)
  · replace h := ifP c1 h
    refine g_aload_n hX (pc := 5) (i := 0) dX4_aside_5 rfl 0 rfl ?_
    refine gf4_5 hX (pc := 6) ho0 fl_X4_37 dX4_aside_6 ?_
    refine gf0_12 hX (pc := 9) (s4_5 ho0).1 fl_X4_203 dX4_aside_9 ?_
    obtain rfl := Option.some.inj h
    exact g_ireturn hX (Nat.le_refl _) (Nat.le_refl _) dX4_aside_12
  · replace h := ifN c1 h
    refine g_iload_n hX (pc := 13) (i := 1) dX4_aside_13 rfl 1 rfl ?_
    refine g_if_lt hX (pc := 14) dX4_aside_14 (tgt := 28) (by decide) (fun c2 => ?_) (fun c2 => ?_)
    · replace h := ifP c2 h
      refine g_bipush hX (pc := 28) (v := (-2)) dX4_aside_28 (by decide) ?_
      obtain rfl := Option.some.inj h
      exact g_ireturn hX (Nat.le_refl _) (Nat.le_refl _) dX4_aside_30
    · replace h := ifN c2 h
      refine g_iload_n hX (pc := 17) (i := 1) dX4_aside_17 rfl 1 rfl ?_
      refine g_aload_n hX (pc := 18) (i := 0) dX4_aside_18 rfl 0 rfl ?_
      refine gf4_5 hX (pc := 19) ho0 fl_X4_37 dX4_aside_19 ?_
      refine gf0_12 hX (pc := 22) (s4_5 ho0).1 fl_X4_203 dX4_aside_22 ?_
      refine g_icmp_lt hX (pc := 25) dX4_aside_25 (tgt := 31) (by decide) (fun c3 => ?_) (fun c3 => ?_)
      · replace h := ifP c3 h
        refine g_aload_n hX (pc := 31) (i := 0) dX4_aside_31 rfl 0 rfl ?_
        refine gf4_5 hX (pc := 32) ho0 fl_X4_37 dX4_aside_32 ?_
        refine gf0_11 hX (pc := 35) (s4_5 ho0).1 fl_X4_206 dX4_aside_35 ?_
        refine g_iload_n hX (pc := 38) (i := 1) dX4_aside_38 rfl 1 rfl ?_
        obtain ⟨v4, e_v4, h⟩ := bnd h
        refine g_ialoadE hX (pc := 39) (s0_11 (s4_5 ho0).1).1 (s0_11 (s4_5 ho0).1).2.1 (s0_11 (s4_5 ho0).1).2.2.1 e_v4 dX4_aside_39 ?_
        refine g_iload_n hX (pc := 40) (i := 2) dX4_aside_40 rfl 2 rfl ?_
        obtain ⟨r5, e_r5, h⟩ := bnd h
        refine g_callSi hX (pc := 41) (d := d + 1) hr0 [.int v4, .int x2] (ct_X4_partOfUnit (d := d + 0)  e_r5) co_X4_partOfUnit ml_X4_200 sta_X4_partOfUnit ini_X4 nm_X4_partOfUnit (by decide) ⟨Nat.le_refl _, Nat.le_refl _⟩ (Nat.le_refl _) (Nat.le_of_ble_eq_true rfl) rfl dX4_aside_41 ?_
        obtain rfl := Option.some.inj h
        exact g_ireturn hX (Nat.le_refl _) (Nat.le_refl _) dX4_aside_44
      · replace h := ifN c3 h
        refine g_bipush hX (pc := 28) (v := (-2)) dX4_aside_28 (by decide) ?_
        obtain rfl := Option.some.inj h
        exact g_ireturn hX (Nat.le_refl _) (Nat.le_refl _) dX4_aside_30
noncomputable def b_X4_stuck_4 (o0 : Nat) (t0 : Nat) (I : MI) (s : Int32 × Int32) : Option ((Int32 × Int32) ⊕ (Int32 × Int32)) :=
  if s.2 < (I t0 10) then
    (f_X0_isStuck (o0 + 23) t0 s.2 I).bind fun r5 =>
    (if r5 = 0 then
      some s.1
    else
      some (s.1 ||| ((1 : Int32) <<< (s.2 &&& 31)))).bind fun (p8 : Int32) =>
    some (.inl ((p8, s.2 + 1)))
  else
    some (.inr ((s.1, s.2)))
noncomputable def f_X4_stuck (o0 t0 u0 : Nat) (I : MI) : Option (Int32) :=
  (lp (b_X4_stuck_4 o0 t0 I) ((0, 0))).bind fun p9 =>
  some p9.1
theorem nm_X4_stuck : yX4_stuck.cls ≠ "java/lang/invoke/MethodHandle" ∧ yX4_stuck.cls ≠ "java/lang/invoke/VarHandle" ∧ (parseMethodDescriptor yX4_stuck.desc).map (fun d => d.parameters.length) = some 0 := by decide +kernel
set_option maxRecDepth 100000 in
set_option maxHeartbeats 4000000 in
theorem ct_X4_stuck {E : Ev} {d : Nat} {z : Sh} {J : MJ} {I : MI} {o0 t0 u0 : Nat} {rr : Int32} (ho0 : oX4 z o0 t0 u0) (h : f_X4_stuck o0 t0 u0 I = some rr) : Ct E (d + 3) yX4_stuck cX4_stuck 3 (some .int) 0 0 [.ref o0] z J I (some (.int rr)) z J I := by
  unfold f_X4_stuck at h
  refine Ct.of (own := RX4) (ls := [(0, .ref o0)]) (by decide) rfl (Nat.le_of_ble_eq_true rfl) rfl ?_
  intro X hr0 hnm hX
  refine g_iconst hX (pc := 0) (v := 0) dX4_stuck_0 (by decide) ?_
  refine g_istore_n hX (pc := 1) (i := 1) (ls' := [(0, .ref o0), (1, .int 0)]) [1, 0] dX4_stuck_1 rfl (by decide) rfl ?_
  refine g_iconst hX (pc := 2) (v := 0) dX4_stuck_2 (by decide) ?_
  refine g_istore_n hX (pc := 3) (i := 2) (ls' := [(0, .ref o0), (1, .int 0), (2, .int 0)]) [1, 2, 0] dX4_stuck_3 rfl (by decide) rfl ?_
  obtain ⟨p9, hpl3, h⟩ := bnd h
  have Kl3 : ∀ ql3 : Int32 × Int32, ql3 = p9 → GW E X (QX E X 0 0 (some (.int rr)) z J I) 3 42 [(0, .ref o0), (1, .int ql3.1), (2, .int ql3.2)] [] z J I 0 0 := by
    intro ql3 hql3
    subst hql3
    refine g_iload_n hX (pc := 42) (i := 1) dX4_stuck_42 rfl 1 rfl ?_
    obtain rfl := Option.some.inj h
    exact g_ireturn hX (Nat.le_refl _) (Nat.le_refl _) dX4_stuck_43
  obtain ⟨kl3, hkl3⟩ := lp_ex hpl3
  clear hpl3 h
  have Ll3 : ∀ k : Nat, ∀ (s1 : Int32) (s2 : Int32), lpN k (b_X4_stuck_4 o0 t0 I) ((s1, s2)) = some p9 → GW E X (QX E X 0 0 (some (.int rr)) z J I) 3 4 [(0, .ref o0), (1, .int s1), (2, .int s2)] [] z J I 0 0 := by
    intro k
    induction k with
    | zero => intro s1 s2 h; cases h
    | succ k ihl3 =>
      intro s1 s2 h
      obtain ⟨wl3, h, hwl3⟩ := lpN_s h
      unfold b_X4_stuck_4 at h
      try dsimp only at h
      refine g_iload_n hX (pc := 4) (i := 2) dX4_stuck_4 rfl 2 rfl ?_
      refine g_aload_n hX (pc := 5) (i := 0) dX4_stuck_5 rfl 0 rfl ?_
      refine gf4_3 hX (pc := 6) ho0 fl_X4_27 dX4_stuck_6 ?_
      refine gf3_10 hX (pc := 9) (s4_3 ho0).1 fl_X4_221 dX4_stuck_9 ?_
      refine g_icmp_ge hX (pc := 12) dX4_stuck_12 (tgt := 42) (by decide) (fun c4 => ?_) (fun c4 => ?_)
      · replace h := ifP c4 h
        refine g_aload_n hX (pc := 15) (i := 0) dX4_stuck_15 rfl 0 rfl ?_
        refine gf4_5 hX (pc := 16) ho0 fl_X4_37 dX4_stuck_16 ?_
        refine g_aload_n hX (pc := 19) (i := 0) dX4_stuck_19 rfl 0 rfl ?_
        refine gf4_3 hX (pc := 20) ho0 fl_X4_27 dX4_stuck_20 ?_
        refine g_iload_n hX (pc := 23) (i := 2) dX4_stuck_23 rfl 2 rfl ?_
        obtain ⟨r5, e_r5, h⟩ := bnd h
        refine g_callVi hX (pc := 24) (d := d + 2) hr0 [.ref t0, .int s2] (c := 0) (ct_X0_isStuck (d := d + 0) (s4_5 ho0).1 (s4_3 ho0).1 e_r5) (s4_5 ho0).1.1.1 (s4_5 ho0).1.1.2 (by decide) rfl co_X0_isStuck ml_X4_222 im_X0_isStuck sl_X0_isStuck ini_X0 nm_X0_isStuck (by decide) ⟨Nat.le_refl _, Nat.le_refl _⟩ (Nat.le_refl _) (Nat.le_of_ble_eq_true rfl) rfl dX4_stuck_24 ?_
        obtain ⟨p8, hpj7, h⟩ := bnd h
        have Kj7 : ∀ qj7 : Int32, qj7 = p8 → GW E X (QX E X 0 0 (some (.int rr)) z J I) 3 36 [(0, .ref o0), (1, .int qj7), (2, .int s2)] [] z J I 0 0 := by
          intro qj7 hqj7
          subst hqj7
          refine g_iinc hX (pc := 36) (i := 2) (v := s2 + 1) (ls' := [(0, .ref o0), (1, .int qj7), (2, .int (s2 + 1))]) 2 [1, 2, 0] dX4_stuck_36 rfl (by rfl) (by decide) rfl ?_
          refine g_goto hX (pc := 39) (tgt := 4) dX4_stuck_39 (by decide) ?_
          obtain rfl := Option.some.inj h
          exact ihl3 qj7 (s2 + 1) hwl3
        replace h := hpj7
        clear hpj7
        refine g_if_eq hX (pc := 27) dX4_stuck_27 (tgt := 36) (by decide) (fun c6 => ?_) (fun c6 => ?_)
        · replace h := ifP c6 h
          exact Kj7 s1 (Option.some.inj h)
        · replace h := ifN c6 h
          refine g_iload_n hX (pc := 30) (i := 1) dX4_stuck_30 rfl 1 rfl ?_
          refine g_iconst hX (pc := 31) (v := 1) dX4_stuck_31 (by decide) ?_
          refine g_iload_n hX (pc := 32) (i := 2) dX4_stuck_32 rfl 2 rfl ?_
          refine g_ishl hX (pc := 33) dX4_stuck_33 ?_
          refine g_ior hX (pc := 34) dX4_stuck_34 ?_
          refine g_istore_n hX (pc := 35) (i := 1) (ls' := [(0, .ref o0), (1, .int (s1 ||| ((1 : Int32) <<< (s2 &&& 31)))), (2, .int s2)]) [1, 0, 2] dX4_stuck_35 rfl (by decide) rfl ?_
          exact Kj7 (s1 ||| ((1 : Int32) <<< (s2 &&& 31))) (Option.some.inj h)
      · replace h := ifN c4 h
        obtain rfl := Option.some.inj h
        exact Kl3 ((s1, s2)) hwl3
  exact Ll3 kl3 0 0 hkl3
noncomputable def f_X4_count (o0 t0 u0 : Nat) (x1 : Int32) (I : MI) : Option (Int32) :=
  if x1 = 0 then
    some (I t0 6)
  else
    if x1 = 1 then
      some (I t0 10)
    else
      if x1 = 2 then
        some (I t0 1)
      else
        if x1 = 3 then
          (f_X0_freeHoles (o0 + 23) t0 I).bind fun r5 =>
          some r5
        else
          if x1 = 4 then
            (f_X0_waiting (o0 + 23) t0 I).bind fun r7 =>
            (f_J6_bitCount_0f7a4 r7).bind fun r8 =>
            some r8
          else
            if x1 = 5 then
              (f_X0_lateOfAll (o0 + 23) I).bind fun r10 =>
              some r10
            else
              if x1 = 6 then
                some (I o0 9)
              else
                if x1 = 7 then
                  some (I o0 1)
                else
                  if x1 = 8 then
                    some (I t0 3)
                  else
                    if x1 = 9 then
                      some (I t0 4)
                    else
                      some ((-1))
theorem nm_X4_count : yX4_count.cls ≠ "java/lang/invoke/MethodHandle" ∧ yX4_count.cls ≠ "java/lang/invoke/VarHandle" ∧ (parseMethodDescriptor yX4_count.desc).map (fun d => d.parameters.length) = some 1 := by decide +kernel
set_option maxRecDepth 100000 in
set_option maxHeartbeats 4000000 in
theorem ct_X4_count {E : Ev} {d : Nat} {z : Sh} {J : MJ} {I : MI} {o0 t0 u0 : Nat} {x1 : Int32} {rr : Int32} (ho0 : oX4 z o0 t0 u0) (h : f_X4_count o0 t0 u0 x1 I = some rr) : Ct E (d + 3) yX4_count cX4_count 2 (some .int) 0 0 [.ref o0, .int x1] z J I (some (.int rr)) z J I := by
  unfold f_X4_count at h
  refine Ct.of (own := RX4) (ls := [(0, .ref o0), (1, .int x1)]) (by decide) rfl (Nat.le_of_ble_eq_true rfl) rfl ?_
  intro X hr0 hnm hX
  refine g_iload_n hX (pc := 0) (i := 1) dX4_count_0 rfl 1 rfl ?_
  by_cases c1 : x1 = 0
  · replace h := ifP c1 h
    refine g_tableIn hX (pc := 1) (tgt := 56) (off := 55) dX4_count_1 (by rw [c1]; decide) (by rw [c1]; decide) (by rw [c1]; rfl) (by decide) ?_
    refine g_aload_n hX (pc := 56) (i := 0) dX4_count_56 rfl 0 rfl ?_
    refine gf4_3 hX (pc := 57) ho0 fl_X4_27 dX4_count_57 ?_
    refine gf3_6 hX (pc := 60) (s4_3 ho0).1 fl_X4_248 dX4_count_60 ?_
    obtain rfl := Option.some.inj h
    exact g_ireturn hX (Nat.le_refl _) (Nat.le_refl _) dX4_count_63
  · replace h := ifN c1 h
    by_cases c2 : x1 = 1
    · replace h := ifP c2 h
      refine g_tableIn hX (pc := 1) (tgt := 64) (off := 63) dX4_count_1 (by rw [c2]; decide) (by rw [c2]; decide) (by rw [c2]; rfl) (by decide) ?_
      refine g_aload_n hX (pc := 64) (i := 0) dX4_count_64 rfl 0 rfl ?_
      refine gf4_3 hX (pc := 65) ho0 fl_X4_27 dX4_count_65 ?_
      refine gf3_10 hX (pc := 68) (s4_3 ho0).1 fl_X4_221 dX4_count_68 ?_
      obtain rfl := Option.some.inj h
      exact g_ireturn hX (Nat.le_refl _) (Nat.le_refl _) dX4_count_71
    · replace h := ifN c2 h
      by_cases c3 : x1 = 2
      · replace h := ifP c3 h
        refine g_tableIn hX (pc := 1) (tgt := 72) (off := 71) dX4_count_1 (by rw [c3]; decide) (by rw [c3]; decide) (by rw [c3]; rfl) (by decide) ?_
        refine g_aload_n hX (pc := 72) (i := 0) dX4_count_72 rfl 0 rfl ?_
        refine gf4_3 hX (pc := 73) ho0 fl_X4_27 dX4_count_73 ?_
        refine gf3_1 hX (pc := 76) (s4_3 ho0).1 fl_X4_209 dX4_count_76 ?_
        obtain rfl := Option.some.inj h
        exact g_ireturn hX (Nat.le_refl _) (Nat.le_refl _) dX4_count_79
      · replace h := ifN c3 h
        by_cases c4 : x1 = 3
        · replace h := ifP c4 h
          refine g_tableIn hX (pc := 1) (tgt := 80) (off := 79) dX4_count_1 (by rw [c4]; decide) (by rw [c4]; decide) (by rw [c4]; rfl) (by decide) ?_
          refine g_aload_n hX (pc := 80) (i := 0) dX4_count_80 rfl 0 rfl ?_
          refine gf4_5 hX (pc := 81) ho0 fl_X4_37 dX4_count_81 ?_
          refine g_aload_n hX (pc := 84) (i := 0) dX4_count_84 rfl 0 rfl ?_
          refine gf4_3 hX (pc := 85) ho0 fl_X4_27 dX4_count_85 ?_
          obtain ⟨r5, e_r5, h⟩ := bnd h
          refine g_callVi hX (pc := 88) (d := d + 2) hr0 [.ref t0] (c := 0) (ct_X0_freeHoles (d := d + 2) (s4_5 ho0).1 (s4_3 ho0).1 e_r5) (s4_5 ho0).1.1.1 (s4_5 ho0).1.1.2 (by decide) rfl co_X0_freeHoles ml_X4_251 im_X0_freeHoles sl_X0_freeHoles ini_X0 nm_X0_freeHoles (by decide) ⟨Nat.le_refl _, Nat.le_refl _⟩ (Nat.le_refl _) (Nat.le_of_ble_eq_true rfl) rfl dX4_count_88 ?_
          obtain rfl := Option.some.inj h
          exact g_ireturn hX (Nat.le_refl _) (Nat.le_refl _) dX4_count_91
        · replace h := ifN c4 h
          by_cases c6 : x1 = 4
          · replace h := ifP c6 h
            refine g_tableIn hX (pc := 1) (tgt := 92) (off := 91) dX4_count_1 (by rw [c6]; decide) (by rw [c6]; decide) (by rw [c6]; rfl) (by decide) ?_
            refine g_aload_n hX (pc := 92) (i := 0) dX4_count_92 rfl 0 rfl ?_
            refine gf4_5 hX (pc := 93) ho0 fl_X4_37 dX4_count_93 ?_
            refine g_aload_n hX (pc := 96) (i := 0) dX4_count_96 rfl 0 rfl ?_
            refine gf4_3 hX (pc := 97) ho0 fl_X4_27 dX4_count_97 ?_
            obtain ⟨r7, e_r7, h⟩ := bnd h
            refine g_callVi hX (pc := 100) (d := d + 2) hr0 [.ref t0] (c := 0) (ct_X0_waiting (d := d + 2) (s4_5 ho0).1 (s4_3 ho0).1 e_r7) (s4_5 ho0).1.1.1 (s4_5 ho0).1.1.2 (by decide) rfl co_X0_waiting ml_X4_254 im_X0_waiting sl_X0_waiting ini_X0 nm_X0_waiting (by decide) ⟨Nat.le_refl _, Nat.le_refl _⟩ (Nat.le_refl _) (Nat.le_of_ble_eq_true rfl) rfl dX4_count_100 ?_
            obtain ⟨r8, e_r8, h⟩ := bnd h
            refine g_callSi hX (pc := 103) (d := d + 2) hr0 [.int r7] (ct_J6_bitCount_0f7a4 (d := d + 2)  e_r8) co_J6_bitCount_0f7a4 ml_X4_142 sta_J6_bitCount_0f7a4 ini_J6 nm_J6_bitCount_0f7a4 (by decide) ⟨Nat.le_refl _, Nat.le_refl _⟩ (Nat.le_refl _) (Nat.le_of_ble_eq_true rfl) rfl dX4_count_103 ?_
            obtain rfl := Option.some.inj h
            exact g_ireturn hX (Nat.le_refl _) (Nat.le_refl _) dX4_count_106
          · replace h := ifN c6 h
            by_cases c9 : x1 = 5
            · replace h := ifP c9 h
              refine g_tableIn hX (pc := 1) (tgt := 107) (off := 106) dX4_count_1 (by rw [c9]; decide) (by rw [c9]; decide) (by rw [c9]; rfl) (by decide) ?_
              refine g_aload_n hX (pc := 107) (i := 0) dX4_count_107 rfl 0 rfl ?_
              refine gf4_5 hX (pc := 108) ho0 fl_X4_37 dX4_count_108 ?_
              obtain ⟨r10, e_r10, h⟩ := bnd h
              refine g_callVi hX (pc := 111) (d := d + 2) hr0 [] (c := 0) (ct_X0_lateOfAll (d := d + 0) (s4_5 ho0).1 e_r10) (s4_5 ho0).1.1.1 (s4_5 ho0).1.1.2 (by decide) rfl co_X0_lateOfAll ml_X4_257 im_X0_lateOfAll sl_X0_lateOfAll ini_X0 nm_X0_lateOfAll (by decide) ⟨Nat.le_refl _, Nat.le_refl _⟩ (Nat.le_refl _) (Nat.le_of_ble_eq_true rfl) rfl dX4_count_111 ?_
              obtain rfl := Option.some.inj h
              exact g_ireturn hX (Nat.le_refl _) (Nat.le_refl _) dX4_count_114
            · replace h := ifN c9 h
              by_cases c11 : x1 = 6
              · replace h := ifP c11 h
                refine g_tableIn hX (pc := 1) (tgt := 115) (off := 114) dX4_count_1 (by rw [c11]; decide) (by rw [c11]; decide) (by rw [c11]; rfl) (by decide) ?_
                refine g_aload_n hX (pc := 115) (i := 0) dX4_count_115 rfl 0 rfl ?_
                refine gf4_9 hX (pc := 116) ho0 fl_X4_55 dX4_count_116 ?_
                obtain rfl := Option.some.inj h
                exact g_ireturn hX (Nat.le_refl _) (Nat.le_refl _) dX4_count_119
              · replace h := ifN c11 h
                by_cases c12 : x1 = 7
                · replace h := ifP c12 h
                  refine g_tableIn hX (pc := 1) (tgt := 120) (off := 119) dX4_count_1 (by rw [c12]; decide) (by rw [c12]; decide) (by rw [c12]; rfl) (by decide) ?_
                  refine g_aload_n hX (pc := 120) (i := 0) dX4_count_120 rfl 0 rfl ?_
                  refine gf4_1 hX (pc := 121) ho0 fl_X4_13 dX4_count_121 ?_
                  obtain rfl := Option.some.inj h
                  exact g_ireturn hX (Nat.le_refl _) (Nat.le_refl _) dX4_count_124
                · replace h := ifN c12 h
                  by_cases c13 : x1 = 8
                  · replace h := ifP c13 h
                    refine g_tableIn hX (pc := 1) (tgt := 125) (off := 124) dX4_count_1 (by rw [c13]; decide) (by rw [c13]; decide) (by rw [c13]; rfl) (by decide) ?_
                    refine g_aload_n hX (pc := 125) (i := 0) dX4_count_125 rfl 0 rfl ?_
                    refine gf4_3 hX (pc := 126) ho0 fl_X4_27 dX4_count_126 ?_
                    refine gf3_3 hX (pc := 129) (s4_3 ho0).1 fl_X4_260 dX4_count_129 ?_
                    obtain rfl := Option.some.inj h
                    exact g_ireturn hX (Nat.le_refl _) (Nat.le_refl _) dX4_count_132
                  · replace h := ifN c13 h
                    by_cases c14 : x1 = 9
                    · replace h := ifP c14 h
                      refine g_tableIn hX (pc := 1) (tgt := 133) (off := 132) dX4_count_1 (by rw [c14]; decide) (by rw [c14]; decide) (by rw [c14]; rfl) (by decide) ?_
                      refine g_aload_n hX (pc := 133) (i := 0) dX4_count_133 rfl 0 rfl ?_
                      refine gf4_3 hX (pc := 134) ho0 fl_X4_27 dX4_count_134 ?_
                      refine gf3_4 hX (pc := 137) (s4_3 ho0).1 fl_X4_263 dX4_count_137 ?_
                      obtain rfl := Option.some.inj h
                      exact g_ireturn hX (Nat.le_refl _) (Nat.le_refl _) dX4_count_140
                    · replace h := ifN c14 h
                      refine g_tableOut hX (pc := 1) (tgt := 141) dX4_count_1 (by have q0 := lv_neT c1 (show (0 : Int32).toInt = 0 by decide); have q1 := lv_neT c2 (show (1 : Int32).toInt = 1 by decide); have q2 := lv_neT c3 (show (2 : Int32).toInt = 2 by decide); have q3 := lv_neT c4 (show (3 : Int32).toInt = 3 by decide); have q4 := lv_neT c6 (show (4 : Int32).toInt = 4 by decide); have q5 := lv_neT c9 (show (5 : Int32).toInt = 5 by decide); have q6 := lv_neT c11 (show (6 : Int32).toInt = 6 by decide); have q7 := lv_neT c12 (show (7 : Int32).toInt = 7 by decide); have q8 := lv_neT c13 (show (8 : Int32).toInt = 8 by decide); have q9 := lv_neT c14 (show (9 : Int32).toInt = 9 by decide); omega) (by decide) ?_
                      refine g_iconst hX (pc := 141) (v := (-1)) dX4_count_141 (by decide) ?_
                      obtain rfl := Option.some.inj h
                      exact g_ireturn hX (Nat.le_refl _) (Nat.le_refl _) dX4_count_142
noncomputable def f_X0_begin (o0 : Nat) (o1 : Nat) (I : MI) : Option (MI) :=
  (cpy 10 10 I (o1 + 3) 0 (o0 + 1) 0 10).bind fun I1 =>
  (f_J7_fill_53178 (o0 + 2) 16 0 I1).bind fun r2 =>
  (f_J7_fill_53178 (o0 + 3) 16 ((-1)) r2).bind fun r3 =>
  (f_J7_fill_53178 (o0 + 4) 8 ((-1)) r3).bind fun r4 =>
  (f_J7_fill_53178 (o0 + 5) 160 0 r4).bind fun r5 =>
  (f_J7_fill_53178 (o0 + 6) 160 0 r5).bind fun r6 =>
  (wf r6 o0 7 0).bind fun I7 =>
  (wf I7 o0 9 0).bind fun I8 =>
  (wf I8 o0 10 0).bind fun I9 =>
  (wf I9 o0 12 0).bind fun I10 =>
  some I10
theorem nm_X0_begin : yX0_begin.cls ≠ "java/lang/invoke/MethodHandle" ∧ yX0_begin.cls ≠ "java/lang/invoke/VarHandle" ∧ (parseMethodDescriptor yX0_begin.desc).map (fun d => d.parameters.length) = some 1 := by decide +kernel
set_option maxRecDepth 100000 in
set_option maxHeartbeats 4000000 in
theorem ct_X0_begin {E : Ev} {d : Nat} {z : Sh} {J : MJ} {I : MI} {o0 : Nat} {o1 : Nat} {Iz : MI} (ho0 : oX0 z o0) (ho1 : oX3 z o1) (h : f_X0_begin o0 o1 I = some Iz) : Ct E (d + 1) yX0_begin cX0_begin 2 none 0 0 [.ref o0, .ref o1] z J I none z J Iz := by
  unfold f_X0_begin at h
  refine Ct.of (own := RX0) (ls := [(0, .ref o0), (1, .ref o1)]) (by decide) rfl (Nat.le_of_ble_eq_true rfl) rfl ?_
  intro X hr0 hnm hX
  refine g_aload_n hX (pc := 0) (i := 1) dX0_begin_0 rfl 1 rfl ?_
  refine gf3_9 hX (pc := 1) ho1 fl_X0_58 dX0_begin_1 ?_
  refine g_iconst hX (pc := 4) (v := 0) dX0_begin_4 (by decide) ?_
  refine g_aload_n hX (pc := 5) (i := 0) dX0_begin_5 rfl 0 rfl ?_
  refine gf0_0 hX (pc := 6) ho0 fl_X0_9 dX0_begin_6 ?_
  refine g_iconst hX (pc := 9) (v := 0) dX0_begin_9 (by decide) ?_
  refine g_bipush hX (pc := 10) (v := 10) dX0_begin_10 (by decide) ?_
  obtain ⟨I1, e_I1, h⟩ := bnd h
  refine g_copyi (d := d + 0) hX (pc := 12) hr0 (s3_9 ho1).1 (s3_9 ho1).2.1 (s3_9 ho1).2.2.1 (s0_0 ho0).1 (s0_0 ho0).2.1 (s0_0 ho0).2.2.1 e_I1 ml_X0_63 (by exact Nat.le_of_ble_eq_true rfl) dX0_begin_12 ?_
  refine g_aload_n hX (pc := 15) (i := 0) dX0_begin_15 rfl 0 rfl ?_
  refine gf0_1 hX (pc := 16) ho0 fl_X0_15 dX0_begin_16 ?_
  refine g_iconst hX (pc := 19) (v := 0) dX0_begin_19 (by decide) ?_
  obtain ⟨r2, e_r2, h⟩ := bnd h
  refine g_callSv hX (pc := 20) (d := d + 0) hr0 [.ref (o0 + 2), .int 0] (ct_J7_fill_53178 (d := d + 0) ⟨(s0_1 ho0).1, (s0_1 ho0).2.1, (s0_1 ho0).2.2.1⟩ e_r2) co_J7_fill_53178 ml_X0_52 sta_J7_fill_53178 ini_J7 nm_J7_fill_53178 (by decide) ⟨Nat.le_refl _, Nat.le_refl _⟩ (Nat.le_refl _) (Nat.le_of_ble_eq_true rfl) rfl dX0_begin_20 ?_
  refine g_aload_n hX (pc := 23) (i := 0) dX0_begin_23 rfl 0 rfl ?_
  refine gf0_2 hX (pc := 24) ho0 fl_X0_18 dX0_begin_24 ?_
  refine g_iconst hX (pc := 27) (v := (-1)) dX0_begin_27 (by decide) ?_
  obtain ⟨r3, e_r3, h⟩ := bnd h
  refine g_callSv hX (pc := 28) (d := d + 0) hr0 [.ref (o0 + 3), .int ((-1))] (ct_J7_fill_53178 (d := d + 0) ⟨(s0_2 ho0).1, (s0_2 ho0).2.1, (s0_2 ho0).2.2.1⟩ e_r3) co_J7_fill_53178 ml_X0_52 sta_J7_fill_53178 ini_J7 nm_J7_fill_53178 (by decide) ⟨Nat.le_refl _, Nat.le_refl _⟩ (Nat.le_refl _) (Nat.le_of_ble_eq_true rfl) rfl dX0_begin_28 ?_
  refine g_aload_n hX (pc := 31) (i := 0) dX0_begin_31 rfl 0 rfl ?_
  refine gf0_3 hX (pc := 32) ho0 fl_X0_21 dX0_begin_32 ?_
  refine g_iconst hX (pc := 35) (v := (-1)) dX0_begin_35 (by decide) ?_
  obtain ⟨r4, e_r4, h⟩ := bnd h
  refine g_callSv hX (pc := 36) (d := d + 0) hr0 [.ref (o0 + 4), .int ((-1))] (ct_J7_fill_53178 (d := d + 0) ⟨(s0_3 ho0).1, (s0_3 ho0).2.1, (s0_3 ho0).2.2.1⟩ e_r4) co_J7_fill_53178 ml_X0_52 sta_J7_fill_53178 ini_J7 nm_J7_fill_53178 (by decide) ⟨Nat.le_refl _, Nat.le_refl _⟩ (Nat.le_refl _) (Nat.le_of_ble_eq_true rfl) rfl dX0_begin_36 ?_
  refine g_aload_n hX (pc := 39) (i := 0) dX0_begin_39 rfl 0 rfl ?_
  refine gf0_4 hX (pc := 40) ho0 fl_X0_24 dX0_begin_40 ?_
  refine g_iconst hX (pc := 43) (v := 0) dX0_begin_43 (by decide) ?_
  obtain ⟨r5, e_r5, h⟩ := bnd h
  refine g_callSv hX (pc := 44) (d := d + 0) hr0 [.ref (o0 + 5), .int 0] (ct_J7_fill_53178 (d := d + 0) ⟨(s0_4 ho0).1, (s0_4 ho0).2.1, (s0_4 ho0).2.2.1⟩ e_r5) co_J7_fill_53178 ml_X0_52 sta_J7_fill_53178 ini_J7 nm_J7_fill_53178 (by decide) ⟨Nat.le_refl _, Nat.le_refl _⟩ (Nat.le_refl _) (Nat.le_of_ble_eq_true rfl) rfl dX0_begin_44 ?_
  refine g_aload_n hX (pc := 47) (i := 0) dX0_begin_47 rfl 0 rfl ?_
  refine gf0_5 hX (pc := 48) ho0 fl_X0_27 dX0_begin_48 ?_
  refine g_iconst hX (pc := 51) (v := 0) dX0_begin_51 (by decide) ?_
  obtain ⟨r6, e_r6, h⟩ := bnd h
  refine g_callSv hX (pc := 52) (d := d + 0) hr0 [.ref (o0 + 6), .int 0] (ct_J7_fill_53178 (d := d + 0) ⟨(s0_5 ho0).1, (s0_5 ho0).2.1, (s0_5 ho0).2.2.1⟩ e_r6) co_J7_fill_53178 ml_X0_52 sta_J7_fill_53178 ini_J7 nm_J7_fill_53178 (by decide) ⟨Nat.le_refl _, Nat.le_refl _⟩ (Nat.le_refl _) (Nat.le_of_ble_eq_true rfl) rfl dX0_begin_52 ?_
  refine g_aload_n hX (pc := 55) (i := 0) dX0_begin_55 rfl 0 rfl ?_
  refine g_iconst hX (pc := 56) (v := 0) dX0_begin_56 (by decide) ?_
  obtain ⟨I7, e_I7, h⟩ := bnd h
  refine pf0_7 hX (pc := 57) ho0 fl_X0_33 dX0_begin_57 e_I7 ?_
  refine g_aload_n hX (pc := 60) (i := 0) dX0_begin_60 rfl 0 rfl ?_
  refine g_iconst hX (pc := 61) (v := 0) dX0_begin_61 (by decide) ?_
  obtain ⟨I8, e_I8, h⟩ := bnd h
  refine pf0_9 hX (pc := 62) ho0 fl_X0_40 dX0_begin_62 e_I8 ?_
  refine g_aload_n hX (pc := 65) (i := 0) dX0_begin_65 rfl 0 rfl ?_
  refine g_iconst hX (pc := 66) (v := 0) dX0_begin_66 (by decide) ?_
  obtain ⟨I9, e_I9, h⟩ := bnd h
  refine pf0_10 hX (pc := 67) ho0 fl_X0_43 dX0_begin_67 e_I9 ?_
  refine g_aload_n hX (pc := 70) (i := 0) dX0_begin_70 rfl 0 rfl ?_
  refine g_iconst hX (pc := 71) (v := 0) dX0_begin_71 (by decide) ?_
  obtain ⟨I10, e_I10, h⟩ := bnd h
  refine pf0_12 hX (pc := 72) ho0 fl_X0_49 dX0_begin_72 e_I10 ?_
  obtain rfl := Option.some.inj h
  exact g_return hX (Nat.le_refl _) (Nat.le_refl _) dX0_begin_75
noncomputable def b_X0_letGo_31 (o0 : Nat) (o1 : Nat) (o2 : Nat) (s1 : Int32) (s : Int32 × MI) : Option ((Int32 × MI) ⊕ (Int32 × MI)) :=
  if s.1 < (s.2 o1 6) then
    (f_X4_cell s1 s.1).bind fun r13 =>
    (rd 160 (s.2 (o1 + 6)) r13).bind fun v14 =>
    (rd 160 (s.2 (o2 + 3)) r13).bind fun v15 =>
    (wr 160 s.2 (o0 + 6) r13 (v14 - v15)).bind fun I16 =>
    some (.inl ((s.1 + 1, I16)))
  else
    some (.inr ((s.1, s.2)))
noncomputable def b_X0_letGo_2 (o0 : Nat) (o1 : Nat) (o2 : Nat) (s : Int32 × MI) : Option ((Int32 × MI) ⊕ (Int32 × MI)) :=
  if s.1 < (s.2 o1 10) then
    (f_X4_hasBit (s.2 o2 0) s.1).bind fun r5 =>
    (if r5 = 0 then
      some s.2
    else
      (wr 16 s.2 (o0 + 2) s.1 1).bind fun I8 =>
      (lp (b_X0_letGo_31 o0 o1 o2 s.1) ((0, I8))).bind fun p17 =>
      some p17.2).bind fun (p18 : MI) =>
    some (.inl ((s.1 + 1, p18)))
  else
    some (.inr ((s.1, s.2)))
noncomputable def b_X0_letGo_119 (o0 : Nat) (o1 : Nat) (o2 : Nat) (v24 : Int32) (s : Int32 × MI) : Option ((Int32 × MI) ⊕ (Int32 × MI)) :=
  if s.1 < (s.2 o1 10) then
    (rd 16 (s.2 (o1 + 9)) s.1).bind fun v32 =>
    (f_X4_cell v32 v24).bind fun r33 =>
    (rd 160 (s.2 (o2 + 3)) r33).bind fun v34 =>
    (f_X0_putOnBelt o0 r33 v34 s.2).bind fun r35 =>
    some (.inl ((s.1 + 1, r35)))
  else
    some (.inr ((s.1, s.2)))
noncomputable def b_X0_letGo_84 (o0 : Nat) (o1 : Nat) (o2 : Nat) (s : Int32 × MI) : Option ((Int32 × MI) ⊕ (Int32 × MI)) :=
  if s.1 < (s.2 o2 1) then
    (rd 10 (s.2 (o2 + 1)) s.1).bind fun v24 =>
    (rd 10 (s.2 (o0 + 1)) v24).bind fun v25 =>
    (rd 10 (s.2 (o2 + 2)) s.1).bind fun v26 =>
    (wr 10 s.2 (o0 + 1) v24 (v25 - v26)).bind fun I27 =>
    (lp (b_X0_letGo_119 o0 o1 o2 v24) ((0, I27))).bind fun p36 =>
    some (.inl ((s.1 + 1, p36.2)))
  else
    some (.inr ((s.1, s.2)))
noncomputable def f_X0_letGo (o0 : Nat) (o1 : Nat) (o2 : Nat) (I : MI) : Option (MI) :=
  (lp (b_X0_letGo_2 o0 o1 o2) ((0, I))).bind fun p19 =>
  (lp (b_X0_letGo_84 o0 o1 o2) ((0, p19.2))).bind fun p37 =>
  some p37.2
theorem nm_X0_letGo : yX0_letGo.cls ≠ "java/lang/invoke/MethodHandle" ∧ yX0_letGo.cls ≠ "java/lang/invoke/VarHandle" ∧ (parseMethodDescriptor yX0_letGo.desc).map (fun d => d.parameters.length) = some 2 := by decide +kernel
set_option maxRecDepth 100000 in
set_option maxHeartbeats 4000000 in
theorem ct_X0_letGo {E : Ev} {d : Nat} {z : Sh} {J : MJ} {I : MI} {o0 : Nat} {o1 : Nat} {o2 : Nat} {Iz : MI} (ho0 : oX0 z o0) (ho1 : oX3 z o1) (ho2 : oX1 z o2) (h : f_X0_letGo o0 o1 o2 I = some Iz) : Ct E (d + 1) yX0_letGo cX0_letGo 7 none 0 0 [.ref o0, .ref o1, .ref o2] z J I none z J Iz := by
  unfold f_X0_letGo at h
  refine Ct.of (own := RX0) (ls := [(0, .ref o0), (1, .ref o1), (2, .ref o2)]) (by decide) rfl (Nat.le_of_ble_eq_true rfl) rfl ?_
  intro X hr0 hnm hX
  refine g_iconst hX (pc := 0) (v := 0) dX0_letGo_0 (by decide) ?_
  refine g_istore_n hX (pc := 1) (i := 3) (ls' := [(0, .ref o0), (1, .ref o1), (2, .ref o2), (3, .int 0)]) [1, 2, 3, 0] dX0_letGo_1 rfl (by decide) rfl ?_
  obtain ⟨p19, hpl3, h⟩ := bnd h
  have Kl3 : ∀ ql3 : Int32 × MI, ql3 = p19 → GW E X (QX E X 0 0 none z J Iz) 7 82 [(0, .ref o0), (1, .ref o1), (2, .ref o2), (3, .int ql3.1)] [] z J ql3.2 0 0 := by
    intro ql3 hql3
    subst hql3
    refine g_iconst hX (pc := 82) (v := 0) dX0_letGo_82 (by decide) ?_
    refine g_istore_n hX (pc := 83) (i := 3) (ls' := [(0, .ref o0), (1, .ref o1), (2, .ref o2), (3, .int 0)]) [1, 2, 3, 0] dX0_letGo_83 rfl (by decide) rfl ?_
    obtain ⟨p37, hpl22, h⟩ := bnd h
    have Kl22 : ∀ ql22 : Int32 × MI, ql22 = p37 → GW E X (QX E X 0 0 none z J Iz) 7 167 [(0, .ref o0), (1, .ref o1), (2, .ref o2), (3, .int ql22.1)] [] z J ql22.2 0 0 := by
      intro ql22 hql22
      subst hql22
      obtain rfl := Option.some.inj h
      exact g_return hX (Nat.le_refl _) (Nat.le_refl _) dX0_letGo_167
    obtain ⟨kl22, hkl22⟩ := lp_ex hpl22
    clear hpl22 h
    have Ll22 : ∀ k : Nat, ∀ (s20 : Int32) (I21 : MI), lpN k (b_X0_letGo_84 o0 o1 o2) ((s20, I21)) = some p37 → GW E X (QX E X 0 0 none z J Iz) 7 84 [(0, .ref o0), (1, .ref o1), (2, .ref o2), (3, .int s20)] [] z J I21 0 0 := by
      intro k
      induction k with
      | zero => intro s20 I21 h; cases h
      | succ k ihl22 =>
        intro s20 I21 h
        obtain ⟨wl22, h, hwl22⟩ := lpN_s h
        unfold b_X0_letGo_84 at h
        try dsimp only at h
        refine g_iload_n hX (pc := 84) (i := 3) dX0_letGo_84 rfl 3 rfl ?_
        refine g_aload_n hX (pc := 85) (i := 2) dX0_letGo_85 rfl 2 rfl ?_
        refine gf1_1 hX (pc := 86) ho2 fl_X0_102 dX0_letGo_86 ?_
        refine g_icmp_ge hX (pc := 89) dX0_letGo_89 (tgt := 167) (by decide) (fun c23 => ?_) (fun c23 => ?_)
        · replace h := ifP c23 h
          refine g_aload_n hX (pc := 92) (i := 2) dX0_letGo_92 rfl 2 rfl ?_
          refine gf1_2 hX (pc := 93) ho2 fl_X0_105 dX0_letGo_93 ?_
          refine g_iload_n hX (pc := 96) (i := 3) dX0_letGo_96 rfl 3 rfl ?_
          obtain ⟨v24, e_v24, h⟩ := bnd h
          refine g_ialoadE hX (pc := 97) (s1_2 ho2).1 (s1_2 ho2).2.1 (s1_2 ho2).2.2.1 e_v24 dX0_letGo_97 ?_
          refine g_istore hX (pc := 98) (ls' := [(0, .ref o0), (1, .ref o1), (2, .ref o2), (3, .int s20), (4, .int v24)]) [1, 2, 3, 4, 0] dX0_letGo_98 (by decide) rfl ?_
          refine g_aload_n hX (pc := 100) (i := 0) dX0_letGo_100 rfl 0 rfl ?_
          refine gf0_0 hX (pc := 101) ho0 fl_X0_9 dX0_letGo_101 ?_
          refine g_iload hX (pc := 104) dX0_letGo_104 4 rfl ?_
          refine g_dup2 hX (pc := 106) dX0_letGo_106 rfl rfl ?_
          obtain ⟨v25, e_v25, h⟩ := bnd h
          refine g_ialoadE hX (pc := 107) (s0_0 ho0).1 (s0_0 ho0).2.1 (s0_0 ho0).2.2.1 e_v25 dX0_letGo_107 ?_
          refine g_aload_n hX (pc := 108) (i := 2) dX0_letGo_108 rfl 2 rfl ?_
          refine gf1_3 hX (pc := 109) ho2 fl_X0_108 dX0_letGo_109 ?_
          refine g_iload_n hX (pc := 112) (i := 3) dX0_letGo_112 rfl 3 rfl ?_
          obtain ⟨v26, e_v26, h⟩ := bnd h
          refine g_ialoadE hX (pc := 113) (s1_3 ho2).1 (s1_3 ho2).2.1 (s1_3 ho2).2.2.1 e_v26 dX0_letGo_113 ?_
          refine g_isub hX (pc := 114) dX0_letGo_114 ?_
          obtain ⟨I27, e_I27, h⟩ := bnd h
          refine g_iastoreE hX (pc := 115) (s0_0 ho0).1 (s0_0 ho0).2.1 (s0_0 ho0).2.2.1 e_I27 dX0_letGo_115 ?_
          refine g_iconst hX (pc := 116) (v := 0) dX0_letGo_116 (by decide) ?_
          refine g_istore hX (pc := 117) (ls' := [(0, .ref o0), (1, .ref o1), (2, .ref o2), (3, .int s20), (4, .int v24), (5, .int 0)]) [1, 2, 3, 4, 5, 0] dX0_letGo_117 (by decide) rfl ?_
          obtain ⟨p36, hpl30, h⟩ := bnd h
          have Kl30 : ∀ ql30 : Int32 × MI, ql30 = p36 → GW E X (QX E X 0 0 none z J Iz) 7 161 [(0, .ref o0), (1, .ref o1), (2, .ref o2), (3, .int s20), (4, .int v24), (5, .int ql30.1)] [] z J ql30.2 0 0 := by
            intro ql30 hql30
            subst hql30
            refine g_iinc hX (pc := 161) (i := 3) (v := s20 + 1) (ls' := [(0, .ref o0), (1, .ref o1), (2, .ref o2), (3, .int (s20 + 1)), (4, .int v24), (5, .int ql30.1)]) 3 [1, 2, 3, 0, 4, 5] dX0_letGo_161 rfl (by rfl) (by decide) rfl ?_
            refine g_goto hX (pc := 164) (tgt := 84) dX0_letGo_164 (by decide) ?_
            refine g_sub (ls' := [(0, .ref o0), (1, .ref o1), (2, .ref o2), (3, .int (s20 + 1))]) [0, 1, 2, 3] rfl ?_
            obtain rfl := Option.some.inj h
            exact ihl22 (s20 + 1) ql30.2 hwl22
          obtain ⟨kl30, hkl30⟩ := lp_ex hpl30
          clear hpl30 h
          have Ll30 : ∀ k : Nat, ∀ (s28 : Int32) (I29 : MI), lpN k (b_X0_letGo_119 o0 o1 o2 v24) ((s28, I29)) = some p36 → GW E X (QX E X 0 0 none z J Iz) 7 119 [(0, .ref o0), (1, .ref o1), (2, .ref o2), (3, .int s20), (4, .int v24), (5, .int s28)] [] z J I29 0 0 := by
            intro k
            induction k with
            | zero => intro s28 I29 h; cases h
            | succ k ihl30 =>
              intro s28 I29 h
              obtain ⟨wl30, h, hwl30⟩ := lpN_s h
              unfold b_X0_letGo_119 at h
              try dsimp only at h
              refine g_iload hX (pc := 119) dX0_letGo_119 5 rfl ?_
              refine g_aload_n hX (pc := 121) (i := 1) dX0_letGo_121 rfl 1 rfl ?_
              refine gf3_10 hX (pc := 122) ho1 fl_X0_69 dX0_letGo_122 ?_
              refine g_icmp_ge hX (pc := 125) dX0_letGo_125 (tgt := 161) (by decide) (fun c31 => ?_) (fun c31 => ?_)
              · replace h := ifP c31 h
                refine g_aload_n hX (pc := 128) (i := 1) dX0_letGo_128 rfl 1 rfl ?_
                refine gf3_16 hX (pc := 129) ho1 fl_X0_111 dX0_letGo_129 ?_
                refine g_iload hX (pc := 132) dX0_letGo_132 5 rfl ?_
                obtain ⟨v32, e_v32, h⟩ := bnd h
                refine g_ialoadE hX (pc := 134) (s3_16 ho1).1 (s3_16 ho1).2.1 (s3_16 ho1).2.2.1 e_v32 dX0_letGo_134 ?_
                refine g_iload hX (pc := 135) dX0_letGo_135 4 rfl ?_
                obtain ⟨r33, e_r33, h⟩ := bnd h
                refine g_callSNi hX (pc := 137) (d := d + 0) hr0 [.int v32, .int v24] (host := RX4) (ct_X4_cell (d := d + 0)  e_r33) co_X4_cell (by decide) sta_X4_cell ini_X4 nm_X4_cell (by decide) ⟨Nat.le_refl _, Nat.le_refl _⟩ (Nat.le_refl _) (Nat.le_of_ble_eq_true rfl) rfl dX0_letGo_137 ?_
                refine g_istore hX (pc := 140) (ls' := [(0, .ref o0), (1, .ref o1), (2, .ref o2), (3, .int s20), (4, .int v24), (5, .int s28), (6, .int r33)]) [1, 2, 3, 4, 5, 6, 0] dX0_letGo_140 (by decide) rfl ?_
                refine g_aload_n hX (pc := 142) (i := 0) dX0_letGo_142 rfl 0 rfl ?_
                refine g_iload hX (pc := 143) dX0_letGo_143 6 rfl ?_
                refine g_aload_n hX (pc := 145) (i := 2) dX0_letGo_145 rfl 2 rfl ?_
                refine gf1_4 hX (pc := 146) ho2 fl_X0_99 dX0_letGo_146 ?_
                refine g_iload hX (pc := 149) dX0_letGo_149 6 rfl ?_
                obtain ⟨v34, e_v34, h⟩ := bnd h
                refine g_ialoadE hX (pc := 151) (s1_4 ho2).1 (s1_4 ho2).2.1 (s1_4 ho2).2.2.1 e_v34 dX0_letGo_151 ?_
                obtain ⟨r35, e_r35, h⟩ := bnd h
                refine g_callVv hX (pc := 152) (d := d + 0) hr0 [.int r33, .int v34] (c := 0) (ct_X0_putOnBelt (d := d + 0) ho0 e_r35) ho0.1.1 ho0.1.2 (by decide) rfl co_X0_putOnBelt ml_X0_114 im_X0_putOnBelt sl_X0_putOnBelt ini_X0 nm_X0_putOnBelt (by decide) ⟨Nat.le_refl _, Nat.le_refl _⟩ (Nat.le_refl _) (Nat.le_of_ble_eq_true rfl) rfl dX0_letGo_152 ?_
                refine g_iinc hX (pc := 155) (i := 5) (v := s28 + 1) (ls' := [(0, .ref o0), (1, .ref o1), (2, .ref o2), (3, .int s20), (4, .int v24), (5, .int (s28 + 1)), (6, .int r33)]) 5 [1, 2, 3, 4, 5, 0, 6] dX0_letGo_155 rfl (by rfl) (by decide) rfl ?_
                refine g_goto hX (pc := 158) (tgt := 119) dX0_letGo_158 (by decide) ?_
                refine g_sub (ls' := [(0, .ref o0), (1, .ref o1), (2, .ref o2), (3, .int s20), (4, .int v24), (5, .int (s28 + 1))]) [0, 1, 2, 3, 4, 5] rfl ?_
                obtain rfl := Option.some.inj h
                exact ihl30 (s28 + 1) r35 hwl30
              · replace h := ifN c31 h
                obtain rfl := Option.some.inj h
                exact Kl30 ((s28, I29)) hwl30
          exact Ll30 kl30 0 I27 hkl30
        · replace h := ifN c23 h
          obtain rfl := Option.some.inj h
          exact Kl22 ((s20, I21)) hwl22
    exact Ll22 kl22 0 ql3.2 hkl22
  obtain ⟨kl3, hkl3⟩ := lp_ex hpl3
  clear hpl3 h
  have Ll3 : ∀ k : Nat, ∀ (s1 : Int32) (I2 : MI), lpN k (b_X0_letGo_2 o0 o1 o2) ((s1, I2)) = some p19 → GW E X (QX E X 0 0 none z J Iz) 7 2 [(0, .ref o0), (1, .ref o1), (2, .ref o2), (3, .int s1)] [] z J I2 0 0 := by
    intro k
    induction k with
    | zero => intro s1 I2 h; cases h
    | succ k ihl3 =>
      intro s1 I2 h
      obtain ⟨wl3, h, hwl3⟩ := lpN_s h
      unfold b_X0_letGo_2 at h
      try dsimp only at h
      refine g_iload_n hX (pc := 2) (i := 3) dX0_letGo_2 rfl 3 rfl ?_
      refine g_aload_n hX (pc := 3) (i := 1) dX0_letGo_3 rfl 1 rfl ?_
      refine gf3_10 hX (pc := 4) ho1 fl_X0_69 dX0_letGo_4 ?_
      refine g_icmp_ge hX (pc := 7) dX0_letGo_7 (tgt := 82) (by decide) (fun c4 => ?_) (fun c4 => ?_)
      · replace h := ifP c4 h
        refine g_aload_n hX (pc := 10) (i := 2) dX0_letGo_10 rfl 2 rfl ?_
        refine gf1_0 hX (pc := 11) ho2 fl_X0_86 dX0_letGo_11 ?_
        refine g_iload_n hX (pc := 14) (i := 3) dX0_letGo_14 rfl 3 rfl ?_
        obtain ⟨r5, e_r5, h⟩ := bnd h
        refine g_callSNi hX (pc := 15) (d := d + 0) hr0 [.int (I2 o2 0), .int s1] (host := RX4) (ct_X4_hasBit (d := d + 0)  e_r5) co_X4_hasBit (by decide) sta_X4_hasBit ini_X4 nm_X4_hasBit (by decide) ⟨Nat.le_refl _, Nat.le_refl _⟩ (Nat.le_refl _) (Nat.le_of_ble_eq_true rfl) rfl dX0_letGo_15 ?_
        obtain ⟨p18, hpj7, h⟩ := bnd h
        have Kj7 : ∀ qj7 : MI, qj7 = p18 → GW E X (QX E X 0 0 none z J Iz) 7 76 [(0, .ref o0), (1, .ref o1), (2, .ref o2), (3, .int s1)] [] z J qj7 0 0 := by
          intro qj7 hqj7
          subst hqj7
          refine g_iinc hX (pc := 76) (i := 3) (v := s1 + 1) (ls' := [(0, .ref o0), (1, .ref o1), (2, .ref o2), (3, .int (s1 + 1))]) 3 [1, 2, 3, 0] dX0_letGo_76 rfl (by rfl) (by decide) rfl ?_
          refine g_goto hX (pc := 79) (tgt := 2) dX0_letGo_79 (by decide) ?_
          obtain rfl := Option.some.inj h
          exact ihl3 (s1 + 1) qj7 hwl3
        replace h := hpj7
        clear hpj7
        refine g_if_eq hX (pc := 18) dX0_letGo_18 (tgt := 76) (by decide) (fun c6 => ?_) (fun c6 => ?_)
        · replace h := ifP c6 h
          exact Kj7 I2 (Option.some.inj h)
        · replace h := ifN c6 h
          refine g_aload_n hX (pc := 21) (i := 0) dX0_letGo_21 rfl 0 rfl ?_
          refine gf0_1 hX (pc := 22) ho0 fl_X0_15 dX0_letGo_22 ?_
          refine g_iload_n hX (pc := 25) (i := 3) dX0_letGo_25 rfl 3 rfl ?_
          refine g_iconst hX (pc := 26) (v := 1) dX0_letGo_26 (by decide) ?_
          obtain ⟨I8, e_I8, h⟩ := bnd h
          refine g_iastoreE hX (pc := 27) (s0_1 ho0).1 (s0_1 ho0).2.1 (s0_1 ho0).2.2.1 e_I8 dX0_letGo_27 ?_
          refine g_iconst hX (pc := 28) (v := 0) dX0_letGo_28 (by decide) ?_
          refine g_istore hX (pc := 29) (ls' := [(0, .ref o0), (1, .ref o1), (2, .ref o2), (3, .int s1), (4, .int 0)]) [1, 2, 3, 4, 0] dX0_letGo_29 (by decide) rfl ?_
          obtain ⟨p17, hpl11, h⟩ := bnd h
          have Kl11 : ∀ ql11 : Int32 × MI, ql11 = p17 → GW E X (QX E X 0 0 none z J Iz) 7 76 [(0, .ref o0), (1, .ref o1), (2, .ref o2), (3, .int s1), (4, .int ql11.1)] [] z J ql11.2 0 0 := by
            intro ql11 hql11
            subst hql11
            refine g_sub (ls' := [(0, .ref o0), (1, .ref o1), (2, .ref o2), (3, .int s1)]) [0, 1, 2, 3] rfl ?_
            exact Kj7 ql11.2 (Option.some.inj h)
          obtain ⟨kl11, hkl11⟩ := lp_ex hpl11
          clear hpl11 h
          have Ll11 : ∀ k : Nat, ∀ (s9 : Int32) (I10 : MI), lpN k (b_X0_letGo_31 o0 o1 o2 s1) ((s9, I10)) = some p17 → GW E X (QX E X 0 0 none z J Iz) 7 31 [(0, .ref o0), (1, .ref o1), (2, .ref o2), (3, .int s1), (4, .int s9)] [] z J I10 0 0 := by
            intro k
            induction k with
            | zero => intro s9 I10 h; cases h
            | succ k ihl11 =>
              intro s9 I10 h
              obtain ⟨wl11, h, hwl11⟩ := lpN_s h
              unfold b_X0_letGo_31 at h
              try dsimp only at h
              refine g_iload hX (pc := 31) dX0_letGo_31 4 rfl ?_
              refine g_aload_n hX (pc := 33) (i := 1) dX0_letGo_33 rfl 1 rfl ?_
              refine gf3_6 hX (pc := 34) ho1 fl_X0_93 dX0_letGo_34 ?_
              refine g_icmp_ge hX (pc := 37) dX0_letGo_37 (tgt := 76) (by decide) (fun c12 => ?_) (fun c12 => ?_)
              · replace h := ifP c12 h
                refine g_iload_n hX (pc := 40) (i := 3) dX0_letGo_40 rfl 3 rfl ?_
                refine g_iload hX (pc := 41) dX0_letGo_41 4 rfl ?_
                obtain ⟨r13, e_r13, h⟩ := bnd h
                refine g_callSNi hX (pc := 43) (d := d + 0) hr0 [.int s1, .int s9] (host := RX4) (ct_X4_cell (d := d + 0)  e_r13) co_X4_cell (by decide) sta_X4_cell ini_X4 nm_X4_cell (by decide) ⟨Nat.le_refl _, Nat.le_refl _⟩ (Nat.le_refl _) (Nat.le_of_ble_eq_true rfl) rfl dX0_letGo_43 ?_
                refine g_istore hX (pc := 46) (ls' := [(0, .ref o0), (1, .ref o1), (2, .ref o2), (3, .int s1), (4, .int s9), (5, .int r13)]) [1, 2, 3, 4, 5, 0] dX0_letGo_46 (by decide) rfl ?_
                refine g_aload_n hX (pc := 48) (i := 0) dX0_letGo_48 rfl 0 rfl ?_
                refine gf0_5 hX (pc := 49) ho0 fl_X0_27 dX0_letGo_49 ?_
                refine g_iload hX (pc := 52) dX0_letGo_52 5 rfl ?_
                refine g_aload_n hX (pc := 54) (i := 1) dX0_letGo_54 rfl 1 rfl ?_
                refine gf3_13 hX (pc := 55) ho1 fl_X0_96 dX0_letGo_55 ?_
                refine g_iload hX (pc := 58) dX0_letGo_58 5 rfl ?_
                obtain ⟨v14, e_v14, h⟩ := bnd h
                refine g_ialoadE hX (pc := 60) (s3_13 ho1).1 (s3_13 ho1).2.1 (s3_13 ho1).2.2.1 e_v14 dX0_letGo_60 ?_
                refine g_aload_n hX (pc := 61) (i := 2) dX0_letGo_61 rfl 2 rfl ?_
                refine gf1_4 hX (pc := 62) ho2 fl_X0_99 dX0_letGo_62 ?_
                refine g_iload hX (pc := 65) dX0_letGo_65 5 rfl ?_
                obtain ⟨v15, e_v15, h⟩ := bnd h
                refine g_ialoadE hX (pc := 67) (s1_4 ho2).1 (s1_4 ho2).2.1 (s1_4 ho2).2.2.1 e_v15 dX0_letGo_67 ?_
                refine g_isub hX (pc := 68) dX0_letGo_68 ?_
                obtain ⟨I16, e_I16, h⟩ := bnd h
                refine g_iastoreE hX (pc := 69) (s0_5 ho0).1 (s0_5 ho0).2.1 (s0_5 ho0).2.2.1 e_I16 dX0_letGo_69 ?_
                refine g_iinc hX (pc := 70) (i := 4) (v := s9 + 1) (ls' := [(0, .ref o0), (1, .ref o1), (2, .ref o2), (3, .int s1), (4, .int (s9 + 1)), (5, .int r13)]) 4 [1, 2, 3, 4, 0, 5] dX0_letGo_70 rfl (by rfl) (by decide) rfl ?_
                refine g_goto hX (pc := 73) (tgt := 31) dX0_letGo_73 (by decide) ?_
                refine g_sub (ls' := [(0, .ref o0), (1, .ref o1), (2, .ref o2), (3, .int s1), (4, .int (s9 + 1))]) [0, 1, 2, 3, 4] rfl ?_
                obtain rfl := Option.some.inj h
                exact ihl11 (s9 + 1) I16 hwl11
              · replace h := ifN c12 h
                obtain rfl := Option.some.inj h
                exact Kl11 ((s9, I10)) hwl11
          exact Ll11 kl11 0 I8 hkl11
      · replace h := ifN c4 h
        obtain rfl := Option.some.inj h
        exact Kl3 ((s1, I2)) hwl3
  exact Ll3 kl3 0 I hkl3
noncomputable def b_X0_bringStock_25 (o0 : Nat) (o1 : Nat) (x2 : Int32) (s : Int32 × Int32 × MI) : Option ((Int32 × Int32 × MI) ⊕ (Int32 × Int32 × MI)) :=
  if s.2.1 < (s.2.2 o1 10) then
    (rd 16 (s.2.2 (o1 + 9)) s.2.1).bind fun v8 =>
    (f_X4_cell v8 x2).bind fun r9 =>
    (rd 160 (s.2.2 (o0 + 6)) r9).bind fun v10 =>
    (rd 10 (s.2.2 (o0 + 1)) x2).bind fun v11 =>
    (rd 160 (s.2.2 (o0 + 6)) r9).bind fun v12 =>
    (wr 160 s.2.2 (o0 + 6) r9 (v12 - (imin v10 v11))).bind fun I13 =>
    (rd 10 (I13 (o0 + 1)) x2).bind fun v14 =>
    (wr 10 I13 (o0 + 1) x2 (v14 - (imin v10 v11))).bind fun I15 =>
    (f_X0_putOnBelt o0 r9 (imin v10 v11) I15).bind fun r16 =>
    some (.inl ((s.1 + (imin v10 v11), s.2.1 + 1, r16)))
  else
    some (.inr ((s.1, s.2.1, s.2.2)))
noncomputable def f_X0_bringStock (o0 : Nat) (o1 : Nat) (x2 : Int32) (x3 : Int32) (I : MI) : Option (Int32 × MI) :=
  (rd 10 (I (o0 + 1)) x2).bind fun v1 =>
  (wr 10 I (o0 + 1) x2 (imin (v1 + x3) 99)).bind fun I2 =>
  (lp (b_X0_bringStock_25 o0 o1 x2) ((0, 0, I2))).bind fun p17 =>
  some ((p17.1, p17.2.2))
theorem nm_X0_bringStock : yX0_bringStock.cls ≠ "java/lang/invoke/MethodHandle" ∧ yX0_bringStock.cls ≠ "java/lang/invoke/VarHandle" ∧ (parseMethodDescriptor yX0_bringStock.desc).map (fun d => d.parameters.length) = some 3 := by decide +kernel
set_option maxRecDepth 100000 in
set_option maxHeartbeats 4000000 in
theorem ct_X0_bringStock {E : Ev} {d : Nat} {z : Sh} {J : MJ} {I : MI} {o0 : Nat} {o1 : Nat} {x2 : Int32} {x3 : Int32} {rr : Int32} {Iz : MI} (ho0 : oX0 z o0) (ho1 : oX3 z o1) (h : f_X0_bringStock o0 o1 x2 x3 I = some ((rr, Iz))) : Ct E (d + 1) yX0_bringStock cX0_bringStock 8 (some .int) 0 0 [.ref o0, .ref o1, .int x2, .int x3] z J I (some (.int rr)) z J Iz := by
  unfold f_X0_bringStock at h
  refine Ct.of (own := RX0) (ls := [(0, .ref o0), (1, .ref o1), (2, .int x2), (3, .int x3)]) (by decide) rfl (Nat.le_of_ble_eq_true rfl) rfl ?_
  intro X hr0 hnm hX
  refine g_aload_n hX (pc := 0) (i := 0) dX0_bringStock_0 rfl 0 rfl ?_
  refine gf0_0 hX (pc := 1) ho0 fl_X0_9 dX0_bringStock_1 ?_
  refine g_iload_n hX (pc := 4) (i := 2) dX0_bringStock_4 rfl 2 rfl ?_
  refine g_aload_n hX (pc := 5) (i := 0) dX0_bringStock_5 rfl 0 rfl ?_
  refine gf0_0 hX (pc := 6) ho0 fl_X0_9 dX0_bringStock_6 ?_
  refine g_iload_n hX (pc := 9) (i := 2) dX0_bringStock_9 rfl 2 rfl ?_
  obtain ⟨v1, e_v1, h⟩ := bnd h
  refine g_ialoadE hX (pc := 10) (s0_0 ho0).1 (s0_0 ho0).2.1 (s0_0 ho0).2.2.1 e_v1 dX0_bringStock_10 ?_
  refine g_iload_n hX (pc := 11) (i := 3) dX0_bringStock_11 rfl 3 rfl ?_
  refine g_iadd hX (pc := 12) dX0_bringStock_12 ?_
  refine g_bipush hX (pc := 13) (v := 99) dX0_bringStock_13 (by decide) ?_
  refine g_mmin (d := d + 0) hX (pc := 15) hr0 ml_X0_137 (by exact Nat.le_of_ble_eq_true rfl) ⟨Nat.zero_le _, Nat.zero_le _⟩ dX0_bringStock_15 ?_
  obtain ⟨I2, e_I2, h⟩ := bnd h
  refine g_iastoreE hX (pc := 18) (s0_0 ho0).1 (s0_0 ho0).2.1 (s0_0 ho0).2.2.1 e_I2 dX0_bringStock_18 ?_
  refine g_iconst hX (pc := 19) (v := 0) dX0_bringStock_19 (by decide) ?_
  refine g_istore hX (pc := 20) (ls' := [(0, .ref o0), (1, .ref o1), (2, .int x2), (3, .int x3), (4, .int 0)]) [1, 2, 3, 4, 0] dX0_bringStock_20 (by decide) rfl ?_
  refine g_iconst hX (pc := 22) (v := 0) dX0_bringStock_22 (by decide) ?_
  refine g_istore hX (pc := 23) (ls' := [(0, .ref o0), (1, .ref o1), (2, .int x2), (3, .int x3), (4, .int 0), (5, .int 0)]) [1, 2, 3, 4, 5, 0] dX0_bringStock_23 (by decide) rfl ?_
  obtain ⟨p17, hpl6, h⟩ := bnd h
  have Kl6 : ∀ ql6 : Int32 × Int32 × MI, ql6 = p17 → GW E X (QX E X 0 0 (some (.int rr)) z J Iz) 8 109 [(0, .ref o0), (1, .ref o1), (2, .int x2), (3, .int x3), (4, .int ql6.1), (5, .int ql6.2.1)] [] z J ql6.2.2 0 0 := by
    intro ql6 hql6
    subst hql6
    refine g_iload hX (pc := 109) dX0_bringStock_109 4 rfl ?_
    replace h := Option.some.inj h
    obtain ⟨rfl, rfl⟩ := Prod.mk.inj h
    exact g_ireturn hX (Nat.le_refl _) (Nat.le_refl _) dX0_bringStock_111
  obtain ⟨kl6, hkl6⟩ := lp_ex hpl6
  clear hpl6 h
  have Ll6 : ∀ k : Nat, ∀ (s3 : Int32) (s4 : Int32) (I5 : MI), lpN k (b_X0_bringStock_25 o0 o1 x2) ((s3, s4, I5)) = some p17 → GW E X (QX E X 0 0 (some (.int rr)) z J Iz) 8 25 [(0, .ref o0), (1, .ref o1), (2, .int x2), (3, .int x3), (4, .int s3), (5, .int s4)] [] z J I5 0 0 := by
    intro k
    induction k with
    | zero => intro s3 s4 I5 h; cases h
    | succ k ihl6 =>
      intro s3 s4 I5 h
      obtain ⟨wl6, h, hwl6⟩ := lpN_s h
      unfold b_X0_bringStock_25 at h
      try dsimp only at h
      refine g_iload hX (pc := 25) dX0_bringStock_25 5 rfl ?_
      refine g_aload_n hX (pc := 27) (i := 1) dX0_bringStock_27 rfl 1 rfl ?_
      refine gf3_10 hX (pc := 28) ho1 fl_X0_69 dX0_bringStock_28 ?_
      refine g_icmp_ge hX (pc := 31) dX0_bringStock_31 (tgt := 109) (by decide) (fun c7 => ?_) (fun c7 => ?_)
      · replace h := ifP c7 h
        refine g_aload_n hX (pc := 34) (i := 1) dX0_bringStock_34 rfl 1 rfl ?_
        refine gf3_16 hX (pc := 35) ho1 fl_X0_111 dX0_bringStock_35 ?_
        refine g_iload hX (pc := 38) dX0_bringStock_38 5 rfl ?_
        obtain ⟨v8, e_v8, h⟩ := bnd h
        refine g_ialoadE hX (pc := 40) (s3_16 ho1).1 (s3_16 ho1).2.1 (s3_16 ho1).2.2.1 e_v8 dX0_bringStock_40 ?_
        refine g_iload_n hX (pc := 41) (i := 2) dX0_bringStock_41 rfl 2 rfl ?_
        obtain ⟨r9, e_r9, h⟩ := bnd h
        refine g_callSNi hX (pc := 42) (d := d + 0) hr0 [.int v8, .int x2] (host := RX4) (ct_X4_cell (d := d + 0)  e_r9) co_X4_cell (by decide) sta_X4_cell ini_X4 nm_X4_cell (by decide) ⟨Nat.le_refl _, Nat.le_refl _⟩ (Nat.le_refl _) (Nat.le_of_ble_eq_true rfl) rfl dX0_bringStock_42 ?_
        refine g_istore hX (pc := 45) (ls' := [(0, .ref o0), (1, .ref o1), (2, .int x2), (3, .int x3), (4, .int s3), (5, .int s4), (6, .int r9)]) [1, 2, 3, 4, 5, 6, 0] dX0_bringStock_45 (by decide) rfl ?_
        refine g_aload_n hX (pc := 47) (i := 0) dX0_bringStock_47 rfl 0 rfl ?_
        refine gf0_5 hX (pc := 48) ho0 fl_X0_27 dX0_bringStock_48 ?_
        refine g_iload hX (pc := 51) dX0_bringStock_51 6 rfl ?_
        obtain ⟨v10, e_v10, h⟩ := bnd h
        refine g_ialoadE hX (pc := 53) (s0_5 ho0).1 (s0_5 ho0).2.1 (s0_5 ho0).2.2.1 e_v10 dX0_bringStock_53 ?_
        refine g_aload_n hX (pc := 54) (i := 0) dX0_bringStock_54 rfl 0 rfl ?_
        refine gf0_0 hX (pc := 55) ho0 fl_X0_9 dX0_bringStock_55 ?_
        refine g_iload_n hX (pc := 58) (i := 2) dX0_bringStock_58 rfl 2 rfl ?_
        obtain ⟨v11, e_v11, h⟩ := bnd h
        refine g_ialoadE hX (pc := 59) (s0_0 ho0).1 (s0_0 ho0).2.1 (s0_0 ho0).2.2.1 e_v11 dX0_bringStock_59 ?_
        refine g_mmin (d := d + 0) hX (pc := 60) hr0 ml_X0_137 (by exact Nat.le_of_ble_eq_true rfl) ⟨Nat.zero_le _, Nat.zero_le _⟩ dX0_bringStock_60 ?_
        refine g_istore hX (pc := 63) (ls' := [(0, .ref o0), (1, .ref o1), (2, .int x2), (3, .int x3), (4, .int s3), (5, .int s4), (6, .int r9), (7, .int (imin v10 v11))]) [1, 2, 3, 4, 5, 6, 7, 0] dX0_bringStock_63 (by decide) rfl ?_
        refine g_aload_n hX (pc := 65) (i := 0) dX0_bringStock_65 rfl 0 rfl ?_
        refine gf0_5 hX (pc := 66) ho0 fl_X0_27 dX0_bringStock_66 ?_
        refine g_iload hX (pc := 69) dX0_bringStock_69 6 rfl ?_
        refine g_dup2 hX (pc := 71) dX0_bringStock_71 rfl rfl ?_
        obtain ⟨v12, e_v12, h⟩ := bnd h
        refine g_ialoadE hX (pc := 72) (s0_5 ho0).1 (s0_5 ho0).2.1 (s0_5 ho0).2.2.1 e_v12 dX0_bringStock_72 ?_
        refine g_iload hX (pc := 73) dX0_bringStock_73 7 rfl ?_
        refine g_isub hX (pc := 75) dX0_bringStock_75 ?_
        obtain ⟨I13, e_I13, h⟩ := bnd h
        refine g_iastoreE hX (pc := 76) (s0_5 ho0).1 (s0_5 ho0).2.1 (s0_5 ho0).2.2.1 e_I13 dX0_bringStock_76 ?_
        refine g_aload_n hX (pc := 77) (i := 0) dX0_bringStock_77 rfl 0 rfl ?_
        refine gf0_0 hX (pc := 78) ho0 fl_X0_9 dX0_bringStock_78 ?_
        refine g_iload_n hX (pc := 81) (i := 2) dX0_bringStock_81 rfl 2 rfl ?_
        refine g_dup2 hX (pc := 82) dX0_bringStock_82 rfl rfl ?_
        obtain ⟨v14, e_v14, h⟩ := bnd h
        refine g_ialoadE hX (pc := 83) (s0_0 ho0).1 (s0_0 ho0).2.1 (s0_0 ho0).2.2.1 e_v14 dX0_bringStock_83 ?_
        refine g_iload hX (pc := 84) dX0_bringStock_84 7 rfl ?_
        refine g_isub hX (pc := 86) dX0_bringStock_86 ?_
        obtain ⟨I15, e_I15, h⟩ := bnd h
        refine g_iastoreE hX (pc := 87) (s0_0 ho0).1 (s0_0 ho0).2.1 (s0_0 ho0).2.2.1 e_I15 dX0_bringStock_87 ?_
        refine g_aload_n hX (pc := 88) (i := 0) dX0_bringStock_88 rfl 0 rfl ?_
        refine g_iload hX (pc := 89) dX0_bringStock_89 6 rfl ?_
        refine g_iload hX (pc := 91) dX0_bringStock_91 7 rfl ?_
        obtain ⟨r16, e_r16, h⟩ := bnd h
        refine g_callVv hX (pc := 93) (d := d + 0) hr0 [.int r9, .int (imin v10 v11)] (c := 0) (ct_X0_putOnBelt (d := d + 0) ho0 e_r16) ho0.1.1 ho0.1.2 (by decide) rfl co_X0_putOnBelt ml_X0_114 im_X0_putOnBelt sl_X0_putOnBelt ini_X0 nm_X0_putOnBelt (by decide) ⟨Nat.le_refl _, Nat.le_refl _⟩ (Nat.le_refl _) (Nat.le_of_ble_eq_true rfl) rfl dX0_bringStock_93 ?_
        refine g_iload hX (pc := 96) dX0_bringStock_96 4 rfl ?_
        refine g_iload hX (pc := 98) dX0_bringStock_98 7 rfl ?_
        refine g_iadd hX (pc := 100) dX0_bringStock_100 ?_
        refine g_istore hX (pc := 101) (ls' := [(0, .ref o0), (1, .ref o1), (2, .int x2), (3, .int x3), (4, .int (s3 + (imin v10 v11))), (5, .int s4), (6, .int r9), (7, .int (imin v10 v11))]) [1, 2, 3, 4, 0, 5, 6, 7] dX0_bringStock_101 (by decide) rfl ?_
        refine g_iinc hX (pc := 103) (i := 5) (v := s4 + 1) (ls' := [(0, .ref o0), (1, .ref o1), (2, .int x2), (3, .int x3), (4, .int (s3 + (imin v10 v11))), (5, .int (s4 + 1)), (6, .int r9), (7, .int (imin v10 v11))]) 5 [1, 2, 3, 4, 5, 0, 6, 7] dX0_bringStock_103 rfl (by rfl) (by decide) rfl ?_
        refine g_goto hX (pc := 106) (tgt := 25) dX0_bringStock_106 (by decide) ?_
        refine g_sub (ls' := [(0, .ref o0), (1, .ref o1), (2, .int x2), (3, .int x3), (4, .int (s3 + (imin v10 v11))), (5, .int (s4 + 1))]) [0, 1, 2, 3, 4, 5] rfl ?_
        obtain rfl := Option.some.inj h
        exact ihl6 (s3 + (imin v10 v11)) (s4 + 1) r16 hwl6
      · replace h := ifN c7 h
        obtain rfl := Option.some.inj h
        exact Kl6 ((s3, s4, I5)) hwl6
  exact Ll6 kl6 0 0 I2 hkl6
noncomputable def f_X0_come (o0 : Nat) (o1 : Nat) (x2 : Int32) (I : MI) : Option (Int32 × MI) :=
  (f_X4_orderOfUnit x2).bind fun r1 =>
  (rd 16 (I (o0 + 2)) r1).bind fun v2 =>
  (if v2 = 1 then
    (f_X0_firstFreeHole o0 o1 I).bind fun r5 =>
    (f_X0_takeHole o0 r1 r5 I).bind fun r6 =>
    some r6
  else
    some I).bind fun (p7 : MI) =>
  (rd 160 (p7 (o0 + 5)) x2).bind fun v8 =>
  (wr 160 p7 (o0 + 5) x2 (v8 + 1)).bind fun I9 =>
  (f_X4_sumOfOrder (o0 + 5) 160 r1 I9).bind fun r10 =>
  (rd 16 (I9 (o1 + 7)) r1).bind fun v11 =>
  if r10 < v11 then
    some ((0, I9))
  else
    (wr 16 I9 (o0 + 2) r1 4).bind fun I13 =>
    (if (I13 o0 7) < 16 then
      (wr 16 I13 (o0 + 7) (I13 o0 7) r1).bind fun I16 =>
      (wf I16 o0 7 ((I16 o0 7) + 1)).bind fun I17 =>
      some I17
    else
      some I13).bind fun (p18 : MI) =>
    (f_X0_leaveHole o0 r1 p18).bind fun r19 =>
    (gb r19.1).bind fun b20 =>
    some ((r19.1, r19.2))
theorem nm_X0_come : yX0_come.cls ≠ "java/lang/invoke/MethodHandle" ∧ yX0_come.cls ≠ "java/lang/invoke/VarHandle" ∧ (parseMethodDescriptor yX0_come.desc).map (fun d => d.parameters.length) = some 2 := by decide +kernel
set_option maxRecDepth 100000 in
set_option maxHeartbeats 4000000 in
theorem ct_X0_come {E : Ev} {d : Nat} {z : Sh} {J : MJ} {I : MI} {o0 : Nat} {o1 : Nat} {x2 : Int32} {rr : Int32} {Iz : MI} (ho0 : oX0 z o0) (ho1 : oX3 z o1) (h : f_X0_come o0 o1 x2 I = some ((rr, Iz))) : Ct E (d + 2) yX0_come cX0_come 4 (some .boolean) 0 0 [.ref o0, .ref o1, .int x2] z J I (some (.int rr)) z J Iz := by
  unfold f_X0_come at h
  refine Ct.of (own := RX0) (ls := [(0, .ref o0), (1, .ref o1), (2, .int x2)]) (by decide) rfl (Nat.le_of_ble_eq_true rfl) rfl ?_
  intro X hr0 hnm hX
  refine g_iload_n hX (pc := 0) (i := 2) dX0_come_0 rfl 2 rfl ?_
  obtain ⟨r1, e_r1, h⟩ := bnd h
  refine g_callSNi hX (pc := 1) (d := d + 1) hr0 [.int x2] (host := RX4) (ct_X4_orderOfUnit (d := d + 1)  e_r1) co_X4_orderOfUnit (by decide) sta_X4_orderOfUnit ini_X4 nm_X4_orderOfUnit (by decide) ⟨Nat.le_refl _, Nat.le_refl _⟩ (Nat.le_refl _) (Nat.le_of_ble_eq_true rfl) rfl dX0_come_1 ?_
  refine g_istore_n hX (pc := 4) (i := 3) (ls' := [(0, .ref o0), (1, .ref o1), (2, .int x2), (3, .int r1)]) [1, 2, 3, 0] dX0_come_4 rfl (by decide) rfl ?_
  refine g_aload_n hX (pc := 5) (i := 0) dX0_come_5 rfl 0 rfl ?_
  refine gf0_1 hX (pc := 6) ho0 fl_X0_15 dX0_come_6 ?_
  refine g_iload_n hX (pc := 9) (i := 3) dX0_come_9 rfl 3 rfl ?_
  obtain ⟨v2, e_v2, h⟩ := bnd h
  refine g_ialoadE hX (pc := 10) (s0_1 ho0).1 (s0_1 ho0).2.1 (s0_1 ho0).2.2.1 e_v2 dX0_come_10 ?_
  refine g_iconst hX (pc := 11) (v := 1) dX0_come_11 (by decide) ?_
  obtain ⟨p7, hpj4, h⟩ := bnd h
  have Kj4 : ∀ qj4 : MI, qj4 = p7 → GW E X (QX E X 0 0 (some (.int rr)) z J Iz) 4 25 [(0, .ref o0), (1, .ref o1), (2, .int x2), (3, .int r1)] [] z J qj4 0 0 := by
    intro qj4 hqj4
    subst hqj4
    refine g_aload_n hX (pc := 25) (i := 0) dX0_come_25 rfl 0 rfl ?_
    refine gf0_4 hX (pc := 26) ho0 fl_X0_24 dX0_come_26 ?_
    refine g_iload_n hX (pc := 29) (i := 2) dX0_come_29 rfl 2 rfl ?_
    refine g_dup2 hX (pc := 30) dX0_come_30 rfl rfl ?_
    obtain ⟨v8, e_v8, h⟩ := bnd h
    refine g_ialoadE hX (pc := 31) (s0_4 ho0).1 (s0_4 ho0).2.1 (s0_4 ho0).2.2.1 e_v8 dX0_come_31 ?_
    refine g_iconst hX (pc := 32) (v := 1) dX0_come_32 (by decide) ?_
    refine g_iadd hX (pc := 33) dX0_come_33 ?_
    obtain ⟨I9, e_I9, h⟩ := bnd h
    refine g_iastoreE hX (pc := 34) (s0_4 ho0).1 (s0_4 ho0).2.1 (s0_4 ho0).2.2.1 e_I9 dX0_come_34 ?_
    refine g_aload_n hX (pc := 35) (i := 0) dX0_come_35 rfl 0 rfl ?_
    refine gf0_4 hX (pc := 36) ho0 fl_X0_24 dX0_come_36 ?_
    refine g_iload_n hX (pc := 39) (i := 3) dX0_come_39 rfl 3 rfl ?_
    obtain ⟨r10, e_r10, h⟩ := bnd h
    refine g_callSNi hX (pc := 40) (d := d + 1) hr0 [.ref (o0 + 5), .int r1] (host := RX4) (ct_X4_sumOfOrder (d := d + 0) ⟨(s0_4 ho0).1, (s0_4 ho0).2.1, (s0_4 ho0).2.2.1⟩ e_r10) co_X4_sumOfOrder (by decide) sta_X4_sumOfOrder ini_X4 nm_X4_sumOfOrder (by decide) ⟨Nat.le_refl _, Nat.le_refl _⟩ (Nat.le_refl _) (Nat.le_of_ble_eq_true rfl) rfl dX0_come_40 ?_
    refine g_aload_n hX (pc := 43) (i := 1) dX0_come_43 rfl 1 rfl ?_
    refine gf3_14 hX (pc := 44) ho1 fl_X0_83 dX0_come_44 ?_
    refine g_iload_n hX (pc := 47) (i := 3) dX0_come_47 rfl 3 rfl ?_
    obtain ⟨v11, e_v11, h⟩ := bnd h
    refine g_ialoadE hX (pc := 48) (s3_14 ho1).1 (s3_14 ho1).2.1 (s3_14 ho1).2.2.1 e_v11 dX0_come_48 ?_
    refine g_icmp_ge hX (pc := 49) dX0_come_49 (tgt := 54) (by decide) (fun c12 => ?_) (fun c12 => ?_)
    · replace h := ifP c12 h
      refine g_iconst hX (pc := 52) (v := 0) dX0_come_52 (by decide) ?_
      replace h := Option.some.inj h
      obtain ⟨rfl, rfl⟩ := Prod.mk.inj h
      exact g_zreturn hX (Or.inl rfl) (Nat.le_refl _) (Nat.le_refl _) dX0_come_53
    · replace h := ifN c12 h
      refine g_aload_n hX (pc := 54) (i := 0) dX0_come_54 rfl 0 rfl ?_
      refine gf0_1 hX (pc := 55) ho0 fl_X0_15 dX0_come_55 ?_
      refine g_iload_n hX (pc := 58) (i := 3) dX0_come_58 rfl 3 rfl ?_
      refine g_iconst hX (pc := 59) (v := 4) dX0_come_59 (by decide) ?_
      obtain ⟨I13, e_I13, h⟩ := bnd h
      refine g_iastoreE hX (pc := 60) (s0_1 ho0).1 (s0_1 ho0).2.1 (s0_1 ho0).2.2.1 e_I13 dX0_come_60 ?_
      refine g_aload_n hX (pc := 61) (i := 0) dX0_come_61 rfl 0 rfl ?_
      refine gf0_7 hX (pc := 62) ho0 fl_X0_33 dX0_come_62 ?_
      refine g_bipush hX (pc := 65) (v := 16) dX0_come_65 (by decide) ?_
      obtain ⟨p18, hpj15, h⟩ := bnd h
      have Kj15 : ∀ qj15 : MI, qj15 = p18 → GW E X (QX E X 0 0 (some (.int rr)) z J Iz) 4 90 [(0, .ref o0), (1, .ref o1), (2, .int x2), (3, .int r1)] [] z J qj15 0 0 := by
        intro qj15 hqj15
        subst hqj15
        refine g_aload_n hX (pc := 90) (i := 0) dX0_come_90 rfl 0 rfl ?_
        refine g_iload_n hX (pc := 91) (i := 3) dX0_come_91 rfl 3 rfl ?_
        obtain ⟨r19, e_r19, h⟩ := bnd h
        refine g_callVi hX (pc := 92) (d := d + 1) hr0 [.int r1] (c := 0) (ct_X0_leaveHole (d := d + 1) ho0 e_r19) ho0.1.1 ho0.1.2 (by decide) rfl co_X0_leaveHole ml_X0_142 im_X0_leaveHole sl_X0_leaveHole ini_X0 nm_X0_leaveHole (by decide) ⟨Nat.le_refl _, Nat.le_refl _⟩ (Nat.le_refl _) (Nat.le_of_ble_eq_true rfl) rfl dX0_come_92 ?_
        obtain ⟨b20, e_b20, h⟩ := bnd h
        replace h := Option.some.inj h
        obtain ⟨rfl, rfl⟩ := Prod.mk.inj h
        exact g_zreturn hX (gb_some e_b20).1 (Nat.le_refl _) (Nat.le_refl _) dX0_come_95
      replace h := hpj15
      clear hpj15
      refine g_icmp_ge hX (pc := 67) dX0_come_67 (tgt := 90) (by decide) (fun c14 => ?_) (fun c14 => ?_)
      · replace h := ifP c14 h
        refine g_aload_n hX (pc := 70) (i := 0) dX0_come_70 rfl 0 rfl ?_
        refine gf0_6 hX (pc := 71) ho0 fl_X0_30 dX0_come_71 ?_
        refine g_aload_n hX (pc := 74) (i := 0) dX0_come_74 rfl 0 rfl ?_
        refine gf0_7 hX (pc := 75) ho0 fl_X0_33 dX0_come_75 ?_
        refine g_iload_n hX (pc := 78) (i := 3) dX0_come_78 rfl 3 rfl ?_
        obtain ⟨I16, e_I16, h⟩ := bnd h
        refine g_iastoreE hX (pc := 79) (s0_6 ho0).1 (s0_6 ho0).2.1 (s0_6 ho0).2.2.1 e_I16 dX0_come_79 ?_
        refine g_aload_n hX (pc := 80) (i := 0) dX0_come_80 rfl 0 rfl ?_
        refine g_dup hX (pc := 81) dX0_come_81 rfl ?_
        refine gf0_7 hX (pc := 82) ho0 fl_X0_33 dX0_come_82 ?_
        refine g_iconst hX (pc := 85) (v := 1) dX0_come_85 (by decide) ?_
        refine g_iadd hX (pc := 86) dX0_come_86 ?_
        obtain ⟨I17, e_I17, h⟩ := bnd h
        refine pf0_7 hX (pc := 87) ho0 fl_X0_33 dX0_come_87 e_I17 ?_
        exact Kj15 I17 (Option.some.inj h)
      · replace h := ifN c14 h
        exact Kj15 I13 (Option.some.inj h)
  replace h := hpj4
  clear hpj4
  refine g_icmp_ne hX (pc := 12) dX0_come_12 (tgt := 25) (by decide) (fun c3 => ?_) (fun c3 => ?_)
  · replace h := ifP c3 h
    refine g_aload_n hX (pc := 15) (i := 0) dX0_come_15 rfl 0 rfl ?_
    refine g_iload_n hX (pc := 16) (i := 3) dX0_come_16 rfl 3 rfl ?_
    refine g_aload_n hX (pc := 17) (i := 0) dX0_come_17 rfl 0 rfl ?_
    refine g_aload_n hX (pc := 18) (i := 1) dX0_come_18 rfl 1 rfl ?_
    obtain ⟨r5, e_r5, h⟩ := bnd h
    refine g_callVi hX (pc := 19) (d := d + 1) hr0 [.ref o1] (c := 0) (ct_X0_firstFreeHole (d := d + 1) ho0 ho1 e_r5) ho0.1.1 ho0.1.2 (by decide) rfl co_X0_firstFreeHole ml_X0_146 im_X0_firstFreeHole sl_X0_firstFreeHole ini_X0 nm_X0_firstFreeHole (by decide) ⟨Nat.le_refl _, Nat.le_refl _⟩ (Nat.le_refl _) (Nat.le_of_ble_eq_true rfl) rfl dX0_come_19 ?_
    obtain ⟨r6, e_r6, h⟩ := bnd h
    refine g_callVv hX (pc := 22) (d := d + 1) hr0 [.int r1, .int r5] (c := 0) (ct_X0_takeHole (d := d + 1) ho0 e_r6) ho0.1.1 ho0.1.2 (by decide) rfl co_X0_takeHole ml_X0_150 im_X0_takeHole sl_X0_takeHole ini_X0 nm_X0_takeHole (by decide) ⟨Nat.le_refl _, Nat.le_refl _⟩ (Nat.le_refl _) (Nat.le_of_ble_eq_true rfl) rfl dX0_come_22 ?_
    exact Kj4 r6 (Option.some.inj h)
  · replace h := ifN c3 h
    exact Kj4 I (Option.some.inj h)
noncomputable def b_X0_goThroughAside_13 (o0 : Nat) (o1 : Nat) (I : MI) (s : Int32 × Int32 × Int32 × MI) : Option ((Int32 × Int32 × Int32 × MI) ⊕ (Int32 × Int32 × Int32 × MI)) :=
  if s.2.2.1 < (I o0 12) then
    (rd 864 (s.2.2.2 (o0 + 9)) s.2.2.1).bind fun v7 =>
    (if s.2.1 = 0 then
      (f_X4_orderOfUnit v7).bind fun r10 =>
      (f_X0_canCome o0 o1 r10 s.2.2.2).bind fun r11 =>
      if r11 = 0 then
        (wr 864 s.2.2.2 (o0 + 9) s.1 v7).bind fun I13 =>
        some ((s.1 + 1, s.2.1, I13))
      else
        (f_X0_come o0 o1 v7 s.2.2.2).bind fun r14 =>
        some ((s.1, r14.1, r14.2))
    else
      (wr 864 s.2.2.2 (o0 + 9) s.1 v7).bind fun I15 =>
      some ((s.1 + 1, s.2.1, I15))).bind fun (p16 : Int32 × Int32 × MI) =>
    some (.inl ((p16.1, p16.2.1, s.2.2.1 + 1, p16.2.2)))
  else
    some (.inr ((s.1, s.2.1, s.2.2.1, s.2.2.2)))
noncomputable def f_X0_goThroughAside (o0 : Nat) (o1 : Nat) (I : MI) : Option (Int32 × MI) :=
  (lp (b_X0_goThroughAside_13 o0 o1 I) ((0, 0, 0, I))).bind fun p17 =>
  (wf p17.2.2.2 o0 12 p17.1).bind fun I18 =>
  (if p17.1 < (I o0 12) then
    some 1
  else
    some 0).bind fun (p21 : Int32) =>
  (gb p21).bind fun b22 =>
  some ((p21, I18))
theorem nm_X0_goThroughAside : yX0_goThroughAside.cls ≠ "java/lang/invoke/MethodHandle" ∧ yX0_goThroughAside.cls ≠ "java/lang/invoke/VarHandle" ∧ (parseMethodDescriptor yX0_goThroughAside.desc).map (fun d => d.parameters.length) = some 1 := by decide +kernel
set_option maxRecDepth 100000 in
set_option maxHeartbeats 4000000 in
theorem ct_X0_goThroughAside {E : Ev} {d : Nat} {z : Sh} {J : MJ} {I : MI} {o0 : Nat} {o1 : Nat} {rr : Int32} {Iz : MI} (ho0 : oX0 z o0) (ho1 : oX3 z o1) (h : f_X0_goThroughAside o0 o1 I = some ((rr, Iz))) : Ct E (d + 3) yX0_goThroughAside cX0_goThroughAside 7 (some .boolean) 0 0 [.ref o0, .ref o1] z J I (some (.int rr)) z J Iz := by
  unfold f_X0_goThroughAside at h
  refine Ct.of (own := RX0) (ls := [(0, .ref o0), (1, .ref o1)]) (by decide) rfl (Nat.le_of_ble_eq_true rfl) rfl ?_
  intro X hr0 hnm hX
  refine g_aload_n hX (pc := 0) (i := 0) dX0_goThroughAside_0 rfl 0 rfl ?_
  refine gf0_12 hX (pc := 1) ho0 fl_X0_49 dX0_goThroughAside_1 ?_
  refine g_istore_n hX (pc := 4) (i := 2) (ls' := [(0, .ref o0), (1, .ref o1), (2, .int (I o0 12))]) [1, 2, 0] dX0_goThroughAside_4 rfl (by decide) rfl ?_
  refine g_iconst hX (pc := 5) (v := 0) dX0_goThroughAside_5 (by decide) ?_
  refine g_istore_n hX (pc := 6) (i := 3) (ls' := [(0, .ref o0), (1, .ref o1), (2, .int (I o0 12)), (3, .int 0)]) [1, 2, 3, 0] dX0_goThroughAside_6 rfl (by decide) rfl ?_
  refine g_iconst hX (pc := 7) (v := 0) dX0_goThroughAside_7 (by decide) ?_
  refine g_istore hX (pc := 8) (ls' := [(0, .ref o0), (1, .ref o1), (2, .int (I o0 12)), (3, .int 0), (4, .int 0)]) [1, 2, 3, 4, 0] dX0_goThroughAside_8 (by decide) rfl ?_
  refine g_iconst hX (pc := 10) (v := 0) dX0_goThroughAside_10 (by decide) ?_
  refine g_istore hX (pc := 11) (ls' := [(0, .ref o0), (1, .ref o1), (2, .int (I o0 12)), (3, .int 0), (4, .int 0), (5, .int 0)]) [1, 2, 3, 4, 5, 0] dX0_goThroughAside_11 (by decide) rfl ?_
  obtain ⟨p17, hpl5, h⟩ := bnd h
  have Kl5 : ∀ ql5 : Int32 × Int32 × Int32 × MI, ql5 = p17 → GW E X (QX E X 0 0 (some (.int rr)) z J Iz) 7 75 [(0, .ref o0), (1, .ref o1), (2, .int (I o0 12)), (3, .int ql5.1), (4, .int ql5.2.1), (5, .int ql5.2.2.1)] [] z J ql5.2.2.2 0 0 := by
    intro ql5 hql5
    subst hql5
    refine g_aload_n hX (pc := 75) (i := 0) dX0_goThroughAside_75 rfl 0 rfl ?_
    refine g_iload_n hX (pc := 76) (i := 3) dX0_goThroughAside_76 rfl 3 rfl ?_
    obtain ⟨I18, e_I18, h⟩ := bnd h
    refine pf0_12 hX (pc := 77) ho0 fl_X0_49 dX0_goThroughAside_77 e_I18 ?_
    refine g_iload_n hX (pc := 80) (i := 3) dX0_goThroughAside_80 rfl 3 rfl ?_
    refine g_iload_n hX (pc := 81) (i := 2) dX0_goThroughAside_81 rfl 2 rfl ?_
    obtain ⟨p21, hpj20, h⟩ := bnd h
    have Kj20 : ∀ qj20 : Int32, qj20 = p21 → GW E X (QX E X 0 0 (some (.int rr)) z J Iz) 7 90 [(0, .ref o0), (1, .ref o1), (2, .int (I o0 12)), (3, .int ql5.1), (4, .int ql5.2.1), (5, .int ql5.2.2.1)] [.int qj20] z J I18 0 0 := by
      intro qj20 hqj20
      subst hqj20
      obtain ⟨b22, e_b22, h⟩ := bnd h
      replace h := Option.some.inj h
      obtain ⟨rfl, rfl⟩ := Prod.mk.inj h
      exact g_zreturn hX (gb_some e_b22).1 (Nat.le_refl _) (Nat.le_refl _) dX0_goThroughAside_90
    replace h := hpj20
    clear hpj20
    refine g_icmp_ge hX (pc := 82) dX0_goThroughAside_82 (tgt := 89) (by decide) (fun c19 => ?_) (fun c19 => ?_)
    · replace h := ifP c19 h
      refine g_iconst hX (pc := 85) (v := 1) dX0_goThroughAside_85 (by decide) ?_
      refine g_goto hX (pc := 86) (tgt := 90) dX0_goThroughAside_86 (by decide) ?_
      exact Kj20 1 (Option.some.inj h)
    · replace h := ifN c19 h
      refine g_iconst hX (pc := 89) (v := 0) dX0_goThroughAside_89 (by decide) ?_
      exact Kj20 0 (Option.some.inj h)
  obtain ⟨kl5, hkl5⟩ := lp_ex hpl5
  clear hpl5 h
  have Ll5 : ∀ k : Nat, ∀ (s1 : Int32) (s2 : Int32) (s3 : Int32) (I4 : MI), lpN k (b_X0_goThroughAside_13 o0 o1 I) ((s1, s2, s3, I4)) = some p17 → GW E X (QX E X 0 0 (some (.int rr)) z J Iz) 7 13 [(0, .ref o0), (1, .ref o1), (2, .int (I o0 12)), (3, .int s1), (4, .int s2), (5, .int s3)] [] z J I4 0 0 := by
    intro k
    induction k with
    | zero => intro s1 s2 s3 I4 h; cases h
    | succ k ihl5 =>
      intro s1 s2 s3 I4 h
      obtain ⟨wl5, h, hwl5⟩ := lpN_s h
      unfold b_X0_goThroughAside_13 at h
      try dsimp only at h
      refine g_iload hX (pc := 13) dX0_goThroughAside_13 5 rfl ?_
      refine g_iload_n hX (pc := 15) (i := 2) dX0_goThroughAside_15 rfl 2 rfl ?_
      refine g_icmp_ge hX (pc := 16) dX0_goThroughAside_16 (tgt := 75) (by decide) (fun c6 => ?_) (fun c6 => ?_)
      · replace h := ifP c6 h
        refine g_aload_n hX (pc := 19) (i := 0) dX0_goThroughAside_19 rfl 0 rfl ?_
        refine gf0_11 hX (pc := 20) ho0 fl_X0_46 dX0_goThroughAside_20 ?_
        refine g_iload hX (pc := 23) dX0_goThroughAside_23 5 rfl ?_
        obtain ⟨v7, e_v7, h⟩ := bnd h
        refine g_ialoadE hX (pc := 25) (s0_11 ho0).1 (s0_11 ho0).2.1 (s0_11 ho0).2.2.1 e_v7 dX0_goThroughAside_25 ?_
        refine g_istore hX (pc := 26) (ls' := [(0, .ref o0), (1, .ref o1), (2, .int (I o0 12)), (3, .int s1), (4, .int s2), (5, .int s3), (6, .int v7)]) [1, 2, 3, 4, 5, 6, 0] dX0_goThroughAside_26 (by decide) rfl ?_
        refine g_iload hX (pc := 28) dX0_goThroughAside_28 4 rfl ?_
        obtain ⟨p16, hpj9, h⟩ := bnd h
        have Kj9 : ∀ qj9 : Int32 × Int32 × MI, qj9 = p16 → GW E X (QX E X 0 0 (some (.int rr)) z J Iz) 7 69 [(0, .ref o0), (1, .ref o1), (2, .int (I o0 12)), (3, .int qj9.1), (4, .int qj9.2.1), (5, .int s3), (6, .int v7)] [] z J qj9.2.2 0 0 := by
          intro qj9 hqj9
          subst hqj9
          refine g_iinc hX (pc := 69) (i := 5) (v := s3 + 1) (ls' := [(0, .ref o0), (1, .ref o1), (2, .int (I o0 12)), (3, .int qj9.1), (4, .int qj9.2.1), (5, .int (s3 + 1)), (6, .int v7)]) 5 [1, 2, 3, 4, 5, 0, 6] dX0_goThroughAside_69 rfl (by rfl) (by decide) rfl ?_
          refine g_goto hX (pc := 72) (tgt := 13) dX0_goThroughAside_72 (by decide) ?_
          refine g_sub (ls' := [(0, .ref o0), (1, .ref o1), (2, .int (I o0 12)), (3, .int qj9.1), (4, .int qj9.2.1), (5, .int (s3 + 1))]) [0, 1, 2, 3, 4, 5] rfl ?_
          obtain rfl := Option.some.inj h
          exact ihl5 qj9.1 qj9.2.1 (s3 + 1) qj9.2.2 hwl5
        replace h := hpj9
        clear hpj9
        refine g_if_ne hX (pc := 30) dX0_goThroughAside_30 (tgt := 58) (by decide) (fun c8 => ?_) (fun c8 => ?_)
        · replace h := ifP c8 h
          refine g_aload_n hX (pc := 33) (i := 0) dX0_goThroughAside_33 rfl 0 rfl ?_
          refine g_aload_n hX (pc := 34) (i := 1) dX0_goThroughAside_34 rfl 1 rfl ?_
          refine g_iload hX (pc := 35) dX0_goThroughAside_35 6 rfl ?_
          obtain ⟨r10, e_r10, h⟩ := bnd h
          refine g_callSNi hX (pc := 37) (d := d + 2) hr0 [.int v7] (host := RX4) (ct_X4_orderOfUnit (d := d + 2)  e_r10) co_X4_orderOfUnit (by decide) sta_X4_orderOfUnit ini_X4 nm_X4_orderOfUnit (by decide) ⟨Nat.le_refl _, Nat.le_refl _⟩ (Nat.le_refl _) (Nat.le_of_ble_eq_true rfl) rfl dX0_goThroughAside_37 ?_
          obtain ⟨r11, e_r11, h⟩ := bnd h
          refine g_callVi hX (pc := 40) (d := d + 2) hr0 [.ref o1, .int r10] (c := 0) (ct_X0_canCome (d := d + 1) ho0 ho1 e_r11) ho0.1.1 ho0.1.2 (by decide) rfl co_X0_canCome ml_X0_122 im_X0_canCome sl_X0_canCome ini_X0 nm_X0_canCome (by decide) ⟨Nat.le_refl _, Nat.le_refl _⟩ (Nat.le_refl _) (Nat.le_of_ble_eq_true rfl) rfl dX0_goThroughAside_40 ?_
          refine g_if_eq hX (pc := 43) dX0_goThroughAside_43 (tgt := 58) (by decide) (fun c12 => ?_) (fun c12 => ?_)
          · replace h := ifP c12 h
            refine g_aload_n hX (pc := 58) (i := 0) dX0_goThroughAside_58 rfl 0 rfl ?_
            refine gf0_11 hX (pc := 59) ho0 fl_X0_46 dX0_goThroughAside_59 ?_
            refine g_iload_n hX (pc := 62) (i := 3) dX0_goThroughAside_62 rfl 3 rfl ?_
            refine g_iload hX (pc := 63) dX0_goThroughAside_63 6 rfl ?_
            obtain ⟨I13, e_I13, h⟩ := bnd h
            refine g_iastoreE hX (pc := 65) (s0_11 ho0).1 (s0_11 ho0).2.1 (s0_11 ho0).2.2.1 e_I13 dX0_goThroughAside_65 ?_
            refine g_iinc hX (pc := 66) (i := 3) (v := s1 + 1) (ls' := [(0, .ref o0), (1, .ref o1), (2, .int (I o0 12)), (3, .int (s1 + 1)), (4, .int s2), (5, .int s3), (6, .int v7)]) 3 [1, 2, 3, 0, 4, 5, 6] dX0_goThroughAside_66 rfl (by rfl) (by decide) rfl ?_
            exact Kj9 ((s1 + 1, s2, I13)) (Option.some.inj h)
          · replace h := ifN c12 h
            refine g_aload_n hX (pc := 46) (i := 0) dX0_goThroughAside_46 rfl 0 rfl ?_
            refine g_aload_n hX (pc := 47) (i := 1) dX0_goThroughAside_47 rfl 1 rfl ?_
            refine g_iload hX (pc := 48) dX0_goThroughAside_48 6 rfl ?_
            obtain ⟨r14, e_r14, h⟩ := bnd h
            refine g_callVi hX (pc := 50) (d := d + 2) hr0 [.ref o1, .int v7] (c := 0) (ct_X0_come (d := d + 0) ho0 ho1 e_r14) ho0.1.1 ho0.1.2 (by decide) rfl co_X0_come ml_X0_130 im_X0_come sl_X0_come ini_X0 nm_X0_come (by decide) ⟨Nat.le_refl _, Nat.le_refl _⟩ (Nat.le_refl _) (Nat.le_of_ble_eq_true rfl) rfl dX0_goThroughAside_50 ?_
            refine g_istore hX (pc := 53) (ls' := [(0, .ref o0), (1, .ref o1), (2, .int (I o0 12)), (3, .int s1), (4, .int r14.1), (5, .int s3), (6, .int v7)]) [1, 2, 3, 4, 0, 5, 6] dX0_goThroughAside_53 (by decide) rfl ?_
            refine g_goto hX (pc := 55) (tgt := 69) dX0_goThroughAside_55 (by decide) ?_
            exact Kj9 ((s1, r14.1, r14.2)) (Option.some.inj h)
        · replace h := ifN c8 h
          refine g_aload_n hX (pc := 58) (i := 0) dX0_goThroughAside_58 rfl 0 rfl ?_
          refine gf0_11 hX (pc := 59) ho0 fl_X0_46 dX0_goThroughAside_59 ?_
          refine g_iload_n hX (pc := 62) (i := 3) dX0_goThroughAside_62 rfl 3 rfl ?_
          refine g_iload hX (pc := 63) dX0_goThroughAside_63 6 rfl ?_
          obtain ⟨I15, e_I15, h⟩ := bnd h
          refine g_iastoreE hX (pc := 65) (s0_11 ho0).1 (s0_11 ho0).2.1 (s0_11 ho0).2.2.1 e_I15 dX0_goThroughAside_65 ?_
          refine g_iinc hX (pc := 66) (i := 3) (v := s1 + 1) (ls' := [(0, .ref o0), (1, .ref o1), (2, .int (I o0 12)), (3, .int (s1 + 1)), (4, .int s2), (5, .int s3), (6, .int v7)]) 3 [1, 2, 3, 0, 4, 5, 6] dX0_goThroughAside_66 rfl (by rfl) (by decide) rfl ?_
          exact Kj9 ((s1 + 1, s2, I15)) (Option.some.inj h)
      · replace h := ifN c6 h
        obtain rfl := Option.some.inj h
        exact Kl5 ((s1, s2, s3, I4)) hwl5
  exact Ll5 kl5 0 0 0 I hkl5
noncomputable def b_X1_needsAsPicked_7 (o0 : Nat) (o1 : Nat) (I : MI) (s : Int32 × Int32 × Int32) : Option ((Int32 × Int32 × Int32) ⊕ (Int32 × Int32 × Int32)) :=
  if s.2.2 < (I o0 1) then
    (rd 10 (I (o0 + 1)) s.2.2).bind fun v6 =>
    (f_X1_peak o0 o1 s.2.1 v6 I).bind fun r7 =>
    (rd 10 (I (o0 + 1)) s.2.2).bind fun v8 =>
    some (.inl ((imax s.1 r7, s.2.1 ||| ((1 : Int32) <<< (v8 &&& 31)), s.2.2 + 1)))
  else
    some (.inr ((s.1, s.2.1, s.2.2)))
noncomputable def f_X1_needsAsPicked (o0 : Nat) (o1 : Nat) (I : MI) : Option (Int32) :=
  (lp (b_X1_needsAsPicked_7 o0 o1 I) ((0, 0, 0))).bind fun p9 =>
  some p9.1
theorem nm_X1_needsAsPicked : yX1_needsAsPicked.cls ≠ "java/lang/invoke/MethodHandle" ∧ yX1_needsAsPicked.cls ≠ "java/lang/invoke/VarHandle" ∧ (parseMethodDescriptor yX1_needsAsPicked.desc).map (fun d => d.parameters.length) = some 1 := by decide +kernel
set_option maxRecDepth 100000 in
set_option maxHeartbeats 4000000 in
theorem ct_X1_needsAsPicked {E : Ev} {d : Nat} {z : Sh} {J : MJ} {I : MI} {o0 : Nat} {o1 : Nat} {rr : Int32} (ho0 : oX1 z o0) (ho1 : oX3 z o1) (h : f_X1_needsAsPicked o0 o1 I = some rr) : Ct E (d + 3) yX1_needsAsPicked cX1_needsAsPicked 5 (some .int) 0 0 [.ref o0, .ref o1] z J I (some (.int rr)) z J I := by
  unfold f_X1_needsAsPicked at h
  refine Ct.of (own := RX1) (ls := [(0, .ref o0), (1, .ref o1)]) (by decide) rfl (Nat.le_of_ble_eq_true rfl) rfl ?_
  intro X hr0 hnm hX
  refine g_iconst hX (pc := 0) (v := 0) dX1_needsAsPicked_0 (by decide) ?_
  refine g_istore_n hX (pc := 1) (i := 2) (ls' := [(0, .ref o0), (1, .ref o1), (2, .int 0)]) [1, 2, 0] dX1_needsAsPicked_1 rfl (by decide) rfl ?_
  refine g_iconst hX (pc := 2) (v := 0) dX1_needsAsPicked_2 (by decide) ?_
  refine g_istore_n hX (pc := 3) (i := 3) (ls' := [(0, .ref o0), (1, .ref o1), (2, .int 0), (3, .int 0)]) [1, 2, 3, 0] dX1_needsAsPicked_3 rfl (by decide) rfl ?_
  refine g_iconst hX (pc := 4) (v := 0) dX1_needsAsPicked_4 (by decide) ?_
  refine g_istore hX (pc := 5) (ls' := [(0, .ref o0), (1, .ref o1), (2, .int 0), (3, .int 0), (4, .int 0)]) [1, 2, 3, 4, 0] dX1_needsAsPicked_5 (by decide) rfl ?_
  obtain ⟨p9, hpl4, h⟩ := bnd h
  have Kl4 : ∀ ql4 : Int32 × Int32 × Int32, ql4 = p9 → GW E X (QX E X 0 0 (some (.int rr)) z J I) 5 52 [(0, .ref o0), (1, .ref o1), (2, .int ql4.1), (3, .int ql4.2.1), (4, .int ql4.2.2)] [] z J I 0 0 := by
    intro ql4 hql4
    subst hql4
    refine g_iload_n hX (pc := 52) (i := 2) dX1_needsAsPicked_52 rfl 2 rfl ?_
    obtain rfl := Option.some.inj h
    exact g_ireturn hX (Nat.le_refl _) (Nat.le_refl _) dX1_needsAsPicked_53
  obtain ⟨kl4, hkl4⟩ := lp_ex hpl4
  clear hpl4 h
  have Ll4 : ∀ k : Nat, ∀ (s1 : Int32) (s2 : Int32) (s3 : Int32), lpN k (b_X1_needsAsPicked_7 o0 o1 I) ((s1, s2, s3)) = some p9 → GW E X (QX E X 0 0 (some (.int rr)) z J I) 5 7 [(0, .ref o0), (1, .ref o1), (2, .int s1), (3, .int s2), (4, .int s3)] [] z J I 0 0 := by
    intro k
    induction k with
    | zero => intro s1 s2 s3 h; cases h
    | succ k ihl4 =>
      intro s1 s2 s3 h
      obtain ⟨wl4, h, hwl4⟩ := lpN_s h
      unfold b_X1_needsAsPicked_7 at h
      try dsimp only at h
      refine g_iload hX (pc := 7) dX1_needsAsPicked_7 4 rfl ?_
      refine g_aload_n hX (pc := 9) (i := 0) dX1_needsAsPicked_9 rfl 0 rfl ?_
      refine gf1_1 hX (pc := 10) ho0 fl_X1_15 dX1_needsAsPicked_10 ?_
      refine g_icmp_ge hX (pc := 13) dX1_needsAsPicked_13 (tgt := 52) (by decide) (fun c5 => ?_) (fun c5 => ?_)
      · replace h := ifP c5 h
        refine g_iload_n hX (pc := 16) (i := 2) dX1_needsAsPicked_16 rfl 2 rfl ?_
        refine g_aload_n hX (pc := 17) (i := 0) dX1_needsAsPicked_17 rfl 0 rfl ?_
        refine g_aload_n hX (pc := 18) (i := 1) dX1_needsAsPicked_18 rfl 1 rfl ?_
        refine g_iload_n hX (pc := 19) (i := 3) dX1_needsAsPicked_19 rfl 3 rfl ?_
        refine g_aload_n hX (pc := 20) (i := 0) dX1_needsAsPicked_20 rfl 0 rfl ?_
        refine gf1_2 hX (pc := 21) ho0 fl_X1_18 dX1_needsAsPicked_21 ?_
        refine g_iload hX (pc := 24) dX1_needsAsPicked_24 4 rfl ?_
        obtain ⟨v6, e_v6, h⟩ := bnd h
        refine g_ialoadE hX (pc := 26) (s1_2 ho0).1 (s1_2 ho0).2.1 (s1_2 ho0).2.2.1 e_v6 dX1_needsAsPicked_26 ?_
        obtain ⟨r7, e_r7, h⟩ := bnd h
        refine g_callVi hX (pc := 27) (d := d + 2) hr0 [.ref o1, .int s2, .int v6] (c := 1) (ct_X1_peak (d := d + 0) ho0 ho1 e_r7) ho0.1.1 ho0.1.2 (by decide) rfl co_X1_peak ml_X1_99 im_X1_peak sl_X1_peak ini_X1 nm_X1_peak (by decide) ⟨Nat.le_refl _, Nat.le_refl _⟩ (Nat.le_refl _) (Nat.le_of_ble_eq_true rfl) rfl dX1_needsAsPicked_27 ?_
        refine g_mmax (d := d + 2) hX (pc := 30) hr0 ml_X1_103 (by exact Nat.le_of_ble_eq_true rfl) ⟨Nat.zero_le _, Nat.zero_le _⟩ dX1_needsAsPicked_30 ?_
        refine g_istore_n hX (pc := 33) (i := 2) (ls' := [(0, .ref o0), (1, .ref o1), (2, .int (imax s1 r7)), (3, .int s2), (4, .int s3)]) [1, 2, 0, 3, 4] dX1_needsAsPicked_33 rfl (by decide) rfl ?_
        refine g_iload_n hX (pc := 34) (i := 3) dX1_needsAsPicked_34 rfl 3 rfl ?_
        refine g_iconst hX (pc := 35) (v := 1) dX1_needsAsPicked_35 (by decide) ?_
        refine g_aload_n hX (pc := 36) (i := 0) dX1_needsAsPicked_36 rfl 0 rfl ?_
        refine gf1_2 hX (pc := 37) ho0 fl_X1_18 dX1_needsAsPicked_37 ?_
        refine g_iload hX (pc := 40) dX1_needsAsPicked_40 4 rfl ?_
        obtain ⟨v8, e_v8, h⟩ := bnd h
        refine g_ialoadE hX (pc := 42) (s1_2 ho0).1 (s1_2 ho0).2.1 (s1_2 ho0).2.2.1 e_v8 dX1_needsAsPicked_42 ?_
        refine g_ishl hX (pc := 43) dX1_needsAsPicked_43 ?_
        refine g_ior hX (pc := 44) dX1_needsAsPicked_44 ?_
        refine g_istore_n hX (pc := 45) (i := 3) (ls' := [(0, .ref o0), (1, .ref o1), (2, .int (imax s1 r7)), (3, .int (s2 ||| ((1 : Int32) <<< (v8 &&& 31)))), (4, .int s3)]) [1, 2, 3, 0, 4] dX1_needsAsPicked_45 rfl (by decide) rfl ?_
        refine g_iinc hX (pc := 46) (i := 4) (v := s3 + 1) (ls' := [(0, .ref o0), (1, .ref o1), (2, .int (imax s1 r7)), (3, .int (s2 ||| ((1 : Int32) <<< (v8 &&& 31)))), (4, .int (s3 + 1))]) 4 [1, 2, 3, 4, 0] dX1_needsAsPicked_46 rfl (by rfl) (by decide) rfl ?_
        refine g_goto hX (pc := 49) (tgt := 7) dX1_needsAsPicked_49 (by decide) ?_
        obtain rfl := Option.some.inj h
        exact ihl4 (imax s1 r7) (s2 ||| ((1 : Int32) <<< (v8 &&& 31))) (s3 + 1) hwl4
      · replace h := ifN c5 h
        obtain rfl := Option.some.inj h
        exact Kl4 ((s1, s2, s3)) hwl4
  exact Ll4 kl4 0 0 0 hkl4
noncomputable def b_X1_findBest_55 (o0 : Nat) (o1 : Nat) (s5 : Int32) (s : Int32 × MI) : Option ((Int32 × MI) ⊕ (Int32 × MI)) :=
  if s.1 < (s.2 o0 1) then
    (f_X4_hasBit s5 s.1).bind fun r14 =>
    (if r14 = 0 then
      (rd 64 (s.2 (o0 + 5)) s5).bind fun v17 =>
      (f_X1_needsBy o0 o1 s5 s.1 s.2).bind fun r18 =>
      (wr 64 s.2 (o0 + 5) s5 (imin v17 r18)).bind fun I19 =>
      some I19
    else
      some s.2).bind fun (p20 : MI) =>
    some (.inl ((s.1 + 1, p20)))
  else
    some (.inr ((s.1, s.2)))
noncomputable def b_X1_findBest_35 (o0 : Nat) (o1 : Nat) (s : Int32 × MI) : Option ((Int32 × MI) ⊕ (Int32 × MI)) :=
  if s.1 < 0 then
    some (.inr ((s.1, s.2)))
  else
    (wr 64 s.2 (o0 + 5) s.1 ((s.2 o0 1) + 16)).bind fun I9 =>
    (lp (b_X1_findBest_55 o0 o1 s.1) ((0, I9))).bind fun p21 =>
    some (.inl ((s.1 + (-1), p21.2)))
noncomputable def b_X1_findBest_113 (o0 : Nat) (o1 : Nat) (s : Int32 × Int32 × MI) : Option ((Int32 × Int32 × MI) ⊕ (Int32 × Int32 × MI)) :=
  if s.2.1 < (s.2.2 o0 1) then
    (rd 64 (s.2.2 (o0 + 5)) 0).bind fun v28 =>
    (f_X1_firstWithin o0 o1 s.1 v28 s.2.2).bind fun r29 =>
    (rd 10 (s.2.2 (o0 + 6)) r29).bind fun v30 =>
    (wr 6 s.2.2 (o0 + 4) s.2.1 v30).bind fun I31 =>
    some (.inl ((s.1 ||| ((1 : Int32) <<< (r29 &&& 31)), s.2.1 + 1, I31)))
  else
    some (.inr ((s.1, s.2.1, s.2.2)))
noncomputable def f_X1_findBest (o0 : Nat) (o1 : Nat) (I : MI) : Option (Int32 × MI) :=
  if 6 < (I o0 1) then
    some (((-1), I))
  else
    (f_X1_sortByNumber o0 I).bind fun r2 =>
    (wr 64 r2 (o0 + 5) (((1 : Int32) <<< ((r2 o0 1) &&& 31)) - 1) 0).bind fun I3 =>
    (nm ((((1 : Int32) <<< ((r2 o0 1) &&& 31)) - 1) - 1)).bind fun v4 =>
    (lp (b_X1_findBest_35 o0 o1) ((v4, I3))).bind fun p22 =>
    (lp (b_X1_findBest_113 o0 o1) ((0, 0, p22.2))).bind fun p32 =>
    (rd 64 (p32.2.2 (o0 + 5)) 0).bind fun v33 =>
    some ((v33, p32.2.2))
theorem nm_X1_findBest : yX1_findBest.cls ≠ "java/lang/invoke/MethodHandle" ∧ yX1_findBest.cls ≠ "java/lang/invoke/VarHandle" ∧ (parseMethodDescriptor yX1_findBest.desc).map (fun d => d.parameters.length) = some 1 := by decide +kernel
set_option maxRecDepth 100000 in
set_option maxHeartbeats 4000000 in
theorem ct_X1_findBest {E : Ev} {d : Nat} {z : Sh} {J : MJ} {I : MI} {o0 : Nat} {o1 : Nat} {rr : Int32} {Iz : MI} (ho0 : oX1 z o0) (ho1 : oX3 z o1) (h : f_X1_findBest o0 o1 I = some ((rr, Iz))) : Ct E (d + 5) yX1_findBest cX1_findBest 6 (some .int) 0 0 [.ref o0, .ref o1] z J I (some (.int rr)) z J Iz := by
  unfold f_X1_findBest at h
  refine Ct.of (own := RX1) (ls := [(0, .ref o0), (1, .ref o1)]) (by decide) rfl (Nat.le_of_ble_eq_true rfl) rfl ?_
  intro X hr0 hnm hX
  refine g_aload_n hX (pc := 0) (i := 0) dX1_findBest_0 rfl 0 rfl ?_
  refine gf1_1 hX (pc := 1) ho0 fl_X1_15 dX1_findBest_1 ?_
  refine g_bipush hX (pc := 4) (v := 6) dX1_findBest_4 (by decide) ?_
  refine g_icmp_le hX (pc := 6) dX1_findBest_6 (tgt := 11) (by decide) (fun c1 => ?_) (fun c1 => ?_)
  · replace h := ifP c1 h
    refine g_iconst hX (pc := 9) (v := (-1)) dX1_findBest_9 (by decide) ?_
    replace h := Option.some.inj h
    obtain ⟨rfl, rfl⟩ := Prod.mk.inj h
    exact g_ireturn hX (Nat.le_refl _) (Nat.le_refl _) dX1_findBest_10
  · replace h := ifN c1 h
    refine g_aload_n hX (pc := 11) (i := 0) dX1_findBest_11 rfl 0 rfl ?_
    obtain ⟨r2, e_r2, h⟩ := bnd h
    refine g_callVv hX (pc := 12) (d := d + 4) hr0 [] (c := 1) (ct_X1_sortByNumber (d := d + 4) ho0 e_r2) ho0.1.1 ho0.1.2 (by decide) rfl co_X1_sortByNumber ml_X1_106 im_X1_sortByNumber sl_X1_sortByNumber ini_X1 nm_X1_sortByNumber (by decide) ⟨Nat.le_refl _, Nat.le_refl _⟩ (Nat.le_refl _) (Nat.le_of_ble_eq_true rfl) rfl dX1_findBest_12 ?_
    refine g_iconst hX (pc := 15) (v := 1) dX1_findBest_15 (by decide) ?_
    refine g_aload_n hX (pc := 16) (i := 0) dX1_findBest_16 rfl 0 rfl ?_
    refine gf1_1 hX (pc := 17) ho0 fl_X1_15 dX1_findBest_17 ?_
    refine g_ishl hX (pc := 20) dX1_findBest_20 ?_
    refine g_iconst hX (pc := 21) (v := 1) dX1_findBest_21 (by decide) ?_
    refine g_isub hX (pc := 22) dX1_findBest_22 ?_
    refine g_istore_n hX (pc := 23) (i := 2) (ls' := [(0, .ref o0), (1, .ref o1), (2, .int (((1 : Int32) <<< ((r2 o0 1) &&& 31)) - 1))]) [1, 2, 0] dX1_findBest_23 rfl (by decide) rfl ?_
    refine g_aload_n hX (pc := 24) (i := 0) dX1_findBest_24 rfl 0 rfl ?_
    refine gf1_6 hX (pc := 25) ho0 fl_X1_31 dX1_findBest_25 ?_
    refine g_iload_n hX (pc := 28) (i := 2) dX1_findBest_28 rfl 2 rfl ?_
    refine g_iconst hX (pc := 29) (v := 0) dX1_findBest_29 (by decide) ?_
    obtain ⟨I3, e_I3, h⟩ := bnd h
    refine g_iastoreE hX (pc := 30) (s1_6 ho0).1 (s1_6 ho0).2.1 (s1_6 ho0).2.2.1 e_I3 dX1_findBest_30 ?_
    refine g_iload_n hX (pc := 31) (i := 2) dX1_findBest_31 rfl 2 rfl ?_
    refine g_iconst hX (pc := 32) (v := 1) dX1_findBest_32 (by decide) ?_
    refine g_isub hX (pc := 33) dX1_findBest_33 ?_
    obtain ⟨v4, e_v4, h⟩ := bnd h
    refine g_nmi e_v4 ?_
    refine g_istore_n hX (pc := 34) (i := 3) (ls' := [(0, .ref o0), (1, .ref o1), (2, .int (((1 : Int32) <<< ((r2 o0 1) &&& 31)) - 1)), (3, .int v4)]) [1, 2, 3, 0] dX1_findBest_34 rfl (by decide) rfl ?_
    obtain ⟨p22, hpl7, h⟩ := bnd h
    have Kl7 : ∀ ql7 : Int32 × MI, ql7 = p22 → GW E X (QX E X 0 0 (some (.int rr)) z J Iz) 6 108 [(0, .ref o0), (1, .ref o1), (2, .int (((1 : Int32) <<< ((r2 o0 1) &&& 31)) - 1)), (3, .int ql7.1)] [] z J ql7.2 0 0 := by
      intro ql7 hql7
      subst hql7
      refine g_iconst hX (pc := 108) (v := 0) dX1_findBest_108 (by decide) ?_
      refine g_istore_n hX (pc := 109) (i := 3) (ls' := [(0, .ref o0), (1, .ref o1), (2, .int (((1 : Int32) <<< ((r2 o0 1) &&& 31)) - 1)), (3, .int 0)]) [1, 2, 3, 0] dX1_findBest_109 rfl (by decide) rfl ?_
      refine g_iconst hX (pc := 110) (v := 0) dX1_findBest_110 (by decide) ?_
      refine g_istore hX (pc := 111) (ls' := [(0, .ref o0), (1, .ref o1), (2, .int (((1 : Int32) <<< ((r2 o0 1) &&& 31)) - 1)), (3, .int 0), (4, .int 0)]) [1, 2, 3, 4, 0] dX1_findBest_111 (by decide) rfl ?_
      obtain ⟨p32, hpl26, h⟩ := bnd h
      have Kl26 : ∀ ql26 : Int32 × Int32 × MI, ql26 = p32 → GW E X (QX E X 0 0 (some (.int rr)) z J Iz) 6 163 [(0, .ref o0), (1, .ref o1), (2, .int (((1 : Int32) <<< ((r2 o0 1) &&& 31)) - 1)), (3, .int ql26.1), (4, .int ql26.2.1)] [] z J ql26.2.2 0 0 := by
        intro ql26 hql26
        subst hql26
        refine g_aload_n hX (pc := 163) (i := 0) dX1_findBest_163 rfl 0 rfl ?_
        refine gf1_6 hX (pc := 164) ho0 fl_X1_31 dX1_findBest_164 ?_
        refine g_iconst hX (pc := 167) (v := 0) dX1_findBest_167 (by decide) ?_
        obtain ⟨v33, e_v33, h⟩ := bnd h
        refine g_ialoadE hX (pc := 168) (s1_6 ho0).1 (s1_6 ho0).2.1 (s1_6 ho0).2.2.1 e_v33 dX1_findBest_168 ?_
        replace h := Option.some.inj h
        obtain ⟨rfl, rfl⟩ := Prod.mk.inj h
        exact g_ireturn hX (Nat.le_refl _) (Nat.le_refl _) dX1_findBest_169
      obtain ⟨kl26, hkl26⟩ := lp_ex hpl26
      clear hpl26 h
      have Ll26 : ∀ k : Nat, ∀ (s23 : Int32) (s24 : Int32) (I25 : MI), lpN k (b_X1_findBest_113 o0 o1) ((s23, s24, I25)) = some p32 → GW E X (QX E X 0 0 (some (.int rr)) z J Iz) 6 113 [(0, .ref o0), (1, .ref o1), (2, .int (((1 : Int32) <<< ((r2 o0 1) &&& 31)) - 1)), (3, .int s23), (4, .int s24)] [] z J I25 0 0 := by
        intro k
        induction k with
        | zero => intro s23 s24 I25 h; cases h
        | succ k ihl26 =>
          intro s23 s24 I25 h
          obtain ⟨wl26, h, hwl26⟩ := lpN_s h
          unfold b_X1_findBest_113 at h
          try dsimp only at h
          refine g_iload hX (pc := 113) dX1_findBest_113 4 rfl ?_
          refine g_aload_n hX (pc := 115) (i := 0) dX1_findBest_115 rfl 0 rfl ?_
          refine gf1_1 hX (pc := 116) ho0 fl_X1_15 dX1_findBest_116 ?_
          refine g_icmp_ge hX (pc := 119) dX1_findBest_119 (tgt := 163) (by decide) (fun c27 => ?_) (fun c27 => ?_)
          · replace h := ifP c27 h
            refine g_aload_n hX (pc := 122) (i := 0) dX1_findBest_122 rfl 0 rfl ?_
            refine g_aload_n hX (pc := 123) (i := 1) dX1_findBest_123 rfl 1 rfl ?_
            refine g_iload_n hX (pc := 124) (i := 3) dX1_findBest_124 rfl 3 rfl ?_
            refine g_aload_n hX (pc := 125) (i := 0) dX1_findBest_125 rfl 0 rfl ?_
            refine gf1_6 hX (pc := 126) ho0 fl_X1_31 dX1_findBest_126 ?_
            refine g_iconst hX (pc := 129) (v := 0) dX1_findBest_129 (by decide) ?_
            obtain ⟨v28, e_v28, h⟩ := bnd h
            refine g_ialoadE hX (pc := 130) (s1_6 ho0).1 (s1_6 ho0).2.1 (s1_6 ho0).2.2.1 e_v28 dX1_findBest_130 ?_
            obtain ⟨r29, e_r29, h⟩ := bnd h
            refine g_callVi hX (pc := 131) (d := d + 4) hr0 [.ref o1, .int s23, .int v28] (c := 1) (ct_X1_firstWithin (d := d + 0) ho0 ho1 e_r29) ho0.1.1 ho0.1.2 (by decide) rfl co_X1_firstWithin ml_X1_116 im_X1_firstWithin sl_X1_firstWithin ini_X1 nm_X1_firstWithin (by decide) ⟨Nat.le_refl _, Nat.le_refl _⟩ (Nat.le_refl _) (Nat.le_of_ble_eq_true rfl) rfl dX1_findBest_131 ?_
            refine g_istore hX (pc := 134) (ls' := [(0, .ref o0), (1, .ref o1), (2, .int (((1 : Int32) <<< ((r2 o0 1) &&& 31)) - 1)), (3, .int s23), (4, .int s24), (5, .int r29)]) [1, 2, 3, 4, 5, 0] dX1_findBest_134 (by decide) rfl ?_
            refine g_aload_n hX (pc := 136) (i := 0) dX1_findBest_136 rfl 0 rfl ?_
            refine gf1_5 hX (pc := 137) ho0 fl_X1_28 dX1_findBest_137 ?_
            refine g_iload hX (pc := 140) dX1_findBest_140 4 rfl ?_
            refine g_aload_n hX (pc := 142) (i := 0) dX1_findBest_142 rfl 0 rfl ?_
            refine gf1_7 hX (pc := 143) ho0 fl_X1_34 dX1_findBest_143 ?_
            refine g_iload hX (pc := 146) dX1_findBest_146 5 rfl ?_
            obtain ⟨v30, e_v30, h⟩ := bnd h
            refine g_ialoadE hX (pc := 148) (s1_7 ho0).1 (s1_7 ho0).2.1 (s1_7 ho0).2.2.1 e_v30 dX1_findBest_148 ?_
            obtain ⟨I31, e_I31, h⟩ := bnd h
            refine g_iastoreE hX (pc := 149) (s1_5 ho0).1 (s1_5 ho0).2.1 (s1_5 ho0).2.2.1 e_I31 dX1_findBest_149 ?_
            refine g_iload_n hX (pc := 150) (i := 3) dX1_findBest_150 rfl 3 rfl ?_
            refine g_iconst hX (pc := 151) (v := 1) dX1_findBest_151 (by decide) ?_
            refine g_iload hX (pc := 152) dX1_findBest_152 5 rfl ?_
            refine g_ishl hX (pc := 154) dX1_findBest_154 ?_
            refine g_ior hX (pc := 155) dX1_findBest_155 ?_
            refine g_istore_n hX (pc := 156) (i := 3) (ls' := [(0, .ref o0), (1, .ref o1), (2, .int (((1 : Int32) <<< ((r2 o0 1) &&& 31)) - 1)), (3, .int (s23 ||| ((1 : Int32) <<< (r29 &&& 31)))), (4, .int s24), (5, .int r29)]) [1, 2, 3, 0, 4, 5] dX1_findBest_156 rfl (by decide) rfl ?_
            refine g_iinc hX (pc := 157) (i := 4) (v := s24 + 1) (ls' := [(0, .ref o0), (1, .ref o1), (2, .int (((1 : Int32) <<< ((r2 o0 1) &&& 31)) - 1)), (3, .int (s23 ||| ((1 : Int32) <<< (r29 &&& 31)))), (4, .int (s24 + 1)), (5, .int r29)]) 4 [1, 2, 3, 4, 0, 5] dX1_findBest_157 rfl (by rfl) (by decide) rfl ?_
            refine g_goto hX (pc := 160) (tgt := 113) dX1_findBest_160 (by decide) ?_
            refine g_sub (ls' := [(0, .ref o0), (1, .ref o1), (2, .int (((1 : Int32) <<< ((r2 o0 1) &&& 31)) - 1)), (3, .int (s23 ||| ((1 : Int32) <<< (r29 &&& 31)))), (4, .int (s24 + 1))]) [0, 1, 2, 3, 4] rfl ?_
            obtain rfl := Option.some.inj h
            exact ihl26 (s23 ||| ((1 : Int32) <<< (r29 &&& 31))) (s24 + 1) I31 hwl26
          · replace h := ifN c27 h
            obtain rfl := Option.some.inj h
            exact Kl26 ((s23, s24, I25)) hwl26
      exact Ll26 kl26 0 0 ql7.2 hkl26
    obtain ⟨kl7, hkl7⟩ := lp_ex hpl7
    clear hpl7 h
    have Ll7 : ∀ k : Nat, ∀ (s5 : Int32) (I6 : MI), lpN k (b_X1_findBest_35 o0 o1) ((s5, I6)) = some p22 → GW E X (QX E X 0 0 (some (.int rr)) z J Iz) 6 35 [(0, .ref o0), (1, .ref o1), (2, .int (((1 : Int32) <<< ((r2 o0 1) &&& 31)) - 1)), (3, .int s5)] [] z J I6 0 0 := by
      intro k
      induction k with
      | zero => intro s5 I6 h; cases h
      | succ k ihl7 =>
        intro s5 I6 h
        obtain ⟨wl7, h, hwl7⟩ := lpN_s h
        unfold b_X1_findBest_35 at h
        try dsimp only at h
        refine g_iload_n hX (pc := 35) (i := 3) dX1_findBest_35 rfl 3 rfl ?_
        refine g_if_lt hX (pc := 36) dX1_findBest_36 (tgt := 108) (by decide) (fun c8 => ?_) (fun c8 => ?_)
        · replace h := ifP c8 h
          obtain rfl := Option.some.inj h
          exact Kl7 ((s5, I6)) hwl7
        · replace h := ifN c8 h
          refine g_aload_n hX (pc := 39) (i := 0) dX1_findBest_39 rfl 0 rfl ?_
          refine gf1_6 hX (pc := 40) ho0 fl_X1_31 dX1_findBest_40 ?_
          refine g_iload_n hX (pc := 43) (i := 3) dX1_findBest_43 rfl 3 rfl ?_
          refine g_aload_n hX (pc := 44) (i := 0) dX1_findBest_44 rfl 0 rfl ?_
          refine gf1_1 hX (pc := 45) ho0 fl_X1_15 dX1_findBest_45 ?_
          refine g_bipush hX (pc := 48) (v := 16) dX1_findBest_48 (by decide) ?_
          refine g_iadd hX (pc := 50) dX1_findBest_50 ?_
          obtain ⟨I9, e_I9, h⟩ := bnd h
          refine g_iastoreE hX (pc := 51) (s1_6 ho0).1 (s1_6 ho0).2.1 (s1_6 ho0).2.2.1 e_I9 dX1_findBest_51 ?_
          refine g_iconst hX (pc := 52) (v := 0) dX1_findBest_52 (by decide) ?_
          refine g_istore hX (pc := 53) (ls' := [(0, .ref o0), (1, .ref o1), (2, .int (((1 : Int32) <<< ((r2 o0 1) &&& 31)) - 1)), (3, .int s5), (4, .int 0)]) [1, 2, 3, 4, 0] dX1_findBest_53 (by decide) rfl ?_
          obtain ⟨p21, hpl12, h⟩ := bnd h
          have Kl12 : ∀ ql12 : Int32 × MI, ql12 = p21 → GW E X (QX E X 0 0 (some (.int rr)) z J Iz) 6 102 [(0, .ref o0), (1, .ref o1), (2, .int (((1 : Int32) <<< ((r2 o0 1) &&& 31)) - 1)), (3, .int s5), (4, .int ql12.1)] [] z J ql12.2 0 0 := by
            intro ql12 hql12
            subst hql12
            refine g_iinc hX (pc := 102) (i := 3) (v := s5 + (-1)) (ls' := [(0, .ref o0), (1, .ref o1), (2, .int (((1 : Int32) <<< ((r2 o0 1) &&& 31)) - 1)), (3, .int (s5 + (-1))), (4, .int ql12.1)]) 3 [1, 2, 3, 0, 4] dX1_findBest_102 rfl (by rfl) (by decide) rfl ?_
            refine g_goto hX (pc := 105) (tgt := 35) dX1_findBest_105 (by decide) ?_
            refine g_sub (ls' := [(0, .ref o0), (1, .ref o1), (2, .int (((1 : Int32) <<< ((r2 o0 1) &&& 31)) - 1)), (3, .int (s5 + (-1)))]) [0, 1, 2, 3] rfl ?_
            obtain rfl := Option.some.inj h
            exact ihl7 (s5 + (-1)) ql12.2 hwl7
          obtain ⟨kl12, hkl12⟩ := lp_ex hpl12
          clear hpl12 h
          have Ll12 : ∀ k : Nat, ∀ (s10 : Int32) (I11 : MI), lpN k (b_X1_findBest_55 o0 o1 s5) ((s10, I11)) = some p21 → GW E X (QX E X 0 0 (some (.int rr)) z J Iz) 6 55 [(0, .ref o0), (1, .ref o1), (2, .int (((1 : Int32) <<< ((r2 o0 1) &&& 31)) - 1)), (3, .int s5), (4, .int s10)] [] z J I11 0 0 := by
            intro k
            induction k with
            | zero => intro s10 I11 h; cases h
            | succ k ihl12 =>
              intro s10 I11 h
              obtain ⟨wl12, h, hwl12⟩ := lpN_s h
              unfold b_X1_findBest_55 at h
              try dsimp only at h
              refine g_iload hX (pc := 55) dX1_findBest_55 4 rfl ?_
              refine g_aload_n hX (pc := 57) (i := 0) dX1_findBest_57 rfl 0 rfl ?_
              refine gf1_1 hX (pc := 58) ho0 fl_X1_15 dX1_findBest_58 ?_
              refine g_icmp_ge hX (pc := 61) dX1_findBest_61 (tgt := 102) (by decide) (fun c13 => ?_) (fun c13 => ?_)
              · replace h := ifP c13 h
                refine g_iload_n hX (pc := 64) (i := 3) dX1_findBest_64 rfl 3 rfl ?_
                refine g_iload hX (pc := 65) dX1_findBest_65 4 rfl ?_
                obtain ⟨r14, e_r14, h⟩ := bnd h
                refine g_callSNi hX (pc := 67) (d := d + 4) hr0 [.int s5, .int s10] (host := RX4) (ct_X4_hasBit (d := d + 4)  e_r14) co_X4_hasBit (by decide) sta_X4_hasBit ini_X4 nm_X4_hasBit (by decide) ⟨Nat.le_refl _, Nat.le_refl _⟩ (Nat.le_refl _) (Nat.le_of_ble_eq_true rfl) rfl dX1_findBest_67 ?_
                obtain ⟨p20, hpj16, h⟩ := bnd h
                have Kj16 : ∀ qj16 : MI, qj16 = p20 → GW E X (QX E X 0 0 (some (.int rr)) z J Iz) 6 96 [(0, .ref o0), (1, .ref o1), (2, .int (((1 : Int32) <<< ((r2 o0 1) &&& 31)) - 1)), (3, .int s5), (4, .int s10)] [] z J qj16 0 0 := by
                  intro qj16 hqj16
                  subst hqj16
                  refine g_iinc hX (pc := 96) (i := 4) (v := s10 + 1) (ls' := [(0, .ref o0), (1, .ref o1), (2, .int (((1 : Int32) <<< ((r2 o0 1) &&& 31)) - 1)), (3, .int s5), (4, .int (s10 + 1))]) 4 [1, 2, 3, 4, 0] dX1_findBest_96 rfl (by rfl) (by decide) rfl ?_
                  refine g_goto hX (pc := 99) (tgt := 55) dX1_findBest_99 (by decide) ?_
                  obtain rfl := Option.some.inj h
                  exact ihl12 (s10 + 1) qj16 hwl12
                replace h := hpj16
                clear hpj16
                refine g_if_ne hX (pc := 70) dX1_findBest_70 (tgt := 96) (by decide) (fun c15 => ?_) (fun c15 => ?_)
                · replace h := ifP c15 h
                  refine g_aload_n hX (pc := 73) (i := 0) dX1_findBest_73 rfl 0 rfl ?_
                  refine gf1_6 hX (pc := 74) ho0 fl_X1_31 dX1_findBest_74 ?_
                  refine g_iload_n hX (pc := 77) (i := 3) dX1_findBest_77 rfl 3 rfl ?_
                  refine g_aload_n hX (pc := 78) (i := 0) dX1_findBest_78 rfl 0 rfl ?_
                  refine gf1_6 hX (pc := 79) ho0 fl_X1_31 dX1_findBest_79 ?_
                  refine g_iload_n hX (pc := 82) (i := 3) dX1_findBest_82 rfl 3 rfl ?_
                  obtain ⟨v17, e_v17, h⟩ := bnd h
                  refine g_ialoadE hX (pc := 83) (s1_6 ho0).1 (s1_6 ho0).2.1 (s1_6 ho0).2.2.1 e_v17 dX1_findBest_83 ?_
                  refine g_aload_n hX (pc := 84) (i := 0) dX1_findBest_84 rfl 0 rfl ?_
                  refine g_aload_n hX (pc := 85) (i := 1) dX1_findBest_85 rfl 1 rfl ?_
                  refine g_iload_n hX (pc := 86) (i := 3) dX1_findBest_86 rfl 3 rfl ?_
                  refine g_iload hX (pc := 87) dX1_findBest_87 4 rfl ?_
                  obtain ⟨r18, e_r18, h⟩ := bnd h
                  refine g_callVi hX (pc := 89) (d := d + 4) hr0 [.ref o1, .int s5, .int s10] (c := 1) (ct_X1_needsBy (d := d + 1) ho0 ho1 e_r18) ho0.1.1 ho0.1.2 (by decide) rfl co_X1_needsBy ml_X1_113 im_X1_needsBy sl_X1_needsBy ini_X1 nm_X1_needsBy (by decide) ⟨Nat.le_refl _, Nat.le_refl _⟩ (Nat.le_refl _) (Nat.le_of_ble_eq_true rfl) rfl dX1_findBest_89 ?_
                  refine g_mmin (d := d + 4) hX (pc := 92) hr0 ml_X1_75 (by exact Nat.le_of_ble_eq_true rfl) ⟨Nat.zero_le _, Nat.zero_le _⟩ dX1_findBest_92 ?_
                  obtain ⟨I19, e_I19, h⟩ := bnd h
                  refine g_iastoreE hX (pc := 95) (s1_6 ho0).1 (s1_6 ho0).2.1 (s1_6 ho0).2.2.1 e_I19 dX1_findBest_95 ?_
                  exact Kj16 I19 (Option.some.inj h)
                · replace h := ifN c15 h
                  exact Kj16 I11 (Option.some.inj h)
              · replace h := ifN c13 h
                obtain rfl := Option.some.inj h
                exact Kl12 ((s10, I11)) hwl12
          exact Ll12 kl12 0 I9 hkl12
    exact Ll7 kl7 v4 I3 hkl7
noncomputable def b_X2_readRun_6 (o0 : Nat) (b0 : Nat) (x1 : Int32) (x2 : Int32) (x3 : Int32) (s : Int32 × MI) : Option ((Int32 × MI) ⊕ (Int32 × MI)) :=
  if s.1 < (s.2 o0 1) then
    (rd 600 (s.2 b0) s.1).bind fun v5 =>
    (f_X2_kindOf v5).bind fun r6 =>
    if r6 = (s.2 o0 3) then
      (if (s.1 - (s.2 o0 2)) < x1 then
        (rd 600 (s.2 b0) s.1).bind fun v10 =>
        (wf s.2 o0 5 ((((s.2 o0 5) * x2) + v10) - x3)).bind fun I11 =>
        some I11
      else
        some s.2).bind fun (p12 : MI) =>
      some (.inl ((s.1 + 1, p12)))
    else
      some (.inr ((s.1, s.2)))
  else
    some (.inr ((s.1, s.2)))
noncomputable def f_X2_readRun (o0 b0 : Nat) (x1 : Int32) (x2 : Int32) (x3 : Int32) (I : MI) : Option (MI) :=
  (lp (b_X2_readRun_6 o0 b0 x1 x2 x3) ((I o0 2, I))).bind fun p13 =>
  (if x1 < (p13.1 - (p13.2 o0 2)) then
    (wf p13.2 o0 3 4).bind fun I16 =>
    some I16
  else
    some p13.2).bind fun (p17 : MI) =>
  (wf p17 o0 2 p13.1).bind fun I18 =>
  some I18
theorem nm_X2_readRun : yX2_readRun.cls ≠ "java/lang/invoke/MethodHandle" ∧ yX2_readRun.cls ≠ "java/lang/invoke/VarHandle" ∧ (parseMethodDescriptor yX2_readRun.desc).map (fun d => d.parameters.length) = some 3 := by decide +kernel
set_option maxRecDepth 100000 in
set_option maxHeartbeats 4000000 in
theorem ct_X2_readRun {E : Ev} {d : Nat} {z : Sh} {J : MJ} {I : MI} {o0 b0 : Nat} {x1 : Int32} {x2 : Int32} {x3 : Int32} {Iz : MI} (ho0 : oX2 z o0 b0) (h : f_X2_readRun o0 b0 x1 x2 x3 I = some Iz) : Ct E (d + 1) yX2_readRun cX2_readRun 5 none 0 0 [.ref o0, .int x1, .int x2, .int x3] z J I none z J Iz := by
  unfold f_X2_readRun at h
  refine Ct.of (own := RX2) (ls := [(0, .ref o0), (1, .int x1), (2, .int x2), (3, .int x3)]) (by decide) rfl (Nat.le_of_ble_eq_true rfl) rfl ?_
  intro X hr0 hnm hX
  refine g_aload_n hX (pc := 0) (i := 0) dX2_readRun_0 rfl 0 rfl ?_
  refine gf2_2 hX (pc := 1) ho0 fl_X2_19 dX2_readRun_1 ?_
  refine g_istore hX (pc := 4) (ls' := [(0, .ref o0), (1, .int x1), (2, .int x2), (3, .int x3), (4, .int (I o0 2))]) [1, 2, 3, 4, 0] dX2_readRun_4 (by decide) rfl ?_
  obtain ⟨p13, hpl3, h⟩ := bnd h
  have Kl3 : ∀ ql3 : Int32 × MI, ql3 = p13 → GW E X (QX E X 0 0 none z J Iz) 5 69 [(0, .ref o0), (1, .int x1), (2, .int x2), (3, .int x3), (4, .int ql3.1)] [] z J ql3.2 0 0 := by
    intro ql3 hql3
    subst hql3
    refine g_iload hX (pc := 69) dX2_readRun_69 4 rfl ?_
    refine g_aload_n hX (pc := 71) (i := 0) dX2_readRun_71 rfl 0 rfl ?_
    refine gf2_2 hX (pc := 72) ho0 fl_X2_19 dX2_readRun_72 ?_
    refine g_isub hX (pc := 75) dX2_readRun_75 ?_
    refine g_iload_n hX (pc := 76) (i := 1) dX2_readRun_76 rfl 1 rfl ?_
    obtain ⟨p17, hpj15, h⟩ := bnd h
    have Kj15 : ∀ qj15 : MI, qj15 = p17 → GW E X (QX E X 0 0 none z J Iz) 5 85 [(0, .ref o0), (1, .int x1), (2, .int x2), (3, .int x3), (4, .int ql3.1)] [] z J qj15 0 0 := by
      intro qj15 hqj15
      subst hqj15
      refine g_aload_n hX (pc := 85) (i := 0) dX2_readRun_85 rfl 0 rfl ?_
      refine g_iload hX (pc := 86) dX2_readRun_86 4 rfl ?_
      obtain ⟨I18, e_I18, h⟩ := bnd h
      refine pf2_2 hX (pc := 88) ho0 fl_X2_19 dX2_readRun_88 e_I18 ?_
      obtain rfl := Option.some.inj h
      exact g_return hX (Nat.le_refl _) (Nat.le_refl _) dX2_readRun_91
    replace h := hpj15
    clear hpj15
    refine g_icmp_le hX (pc := 77) dX2_readRun_77 (tgt := 85) (by decide) (fun c14 => ?_) (fun c14 => ?_)
    · replace h := ifP c14 h
      refine g_aload_n hX (pc := 80) (i := 0) dX2_readRun_80 rfl 0 rfl ?_
      refine g_iconst hX (pc := 81) (v := 4) dX2_readRun_81 (by decide) ?_
      obtain ⟨I16, e_I16, h⟩ := bnd h
      refine pf2_3 hX (pc := 82) ho0 fl_X2_22 dX2_readRun_82 e_I16 ?_
      exact Kj15 I16 (Option.some.inj h)
    · replace h := ifN c14 h
      exact Kj15 ql3.2 (Option.some.inj h)
  obtain ⟨kl3, hkl3⟩ := lp_ex hpl3
  clear hpl3 h
  have Ll3 : ∀ k : Nat, ∀ (s1 : Int32) (I2 : MI), lpN k (b_X2_readRun_6 o0 b0 x1 x2 x3) ((s1, I2)) = some p13 → GW E X (QX E X 0 0 none z J Iz) 5 6 [(0, .ref o0), (1, .int x1), (2, .int x2), (3, .int x3), (4, .int s1)] [] z J I2 0 0 := by
    intro k
    induction k with
    | zero => intro s1 I2 h; cases h
    | succ k ihl3 =>
      intro s1 I2 h
      obtain ⟨wl3, h, hwl3⟩ := lpN_s h
      unfold b_X2_readRun_6 at h
      try dsimp only at h
      refine g_iload hX (pc := 6) dX2_readRun_6 4 rfl ?_
      refine g_aload_n hX (pc := 8) (i := 0) dX2_readRun_8 rfl 0 rfl ?_
      refine gf2_1 hX (pc := 9) ho0 fl_X2_15 dX2_readRun_9 ?_
      refine g_icmp_ge hX (pc := 12) dX2_readRun_12 (tgt := 69) (by decide) (fun c4 => ?_) (fun c4 => ?_)
      · replace h := ifP c4 h
        refine g_aload_n hX (pc := 15) (i := 0) dX2_readRun_15 rfl 0 rfl ?_
        refine gf2_0 hX (pc := 16) ho0 fl_X2_9 dX2_readRun_16 ?_
        refine g_iload hX (pc := 19) dX2_readRun_19 4 rfl ?_
        obtain ⟨v5, e_v5, h⟩ := bnd h
        refine g_baloadE hX (pc := 21) ho0.2.2.1 ho0.2.2.2.1 ho0.2.2.2.2 e_v5 dX2_readRun_21 ?_
        obtain ⟨r6, e_r6, h⟩ := bnd h
        refine g_callSi hX (pc := 22) (d := d + 0) hr0 [.int v5] (ct_X2_kindOf (d := d + 0)  e_r6) co_X2_kindOf ml_X2_151 sta_X2_kindOf ini_X2 nm_X2_kindOf (by decide) ⟨Nat.le_refl _, Nat.le_refl _⟩ (Nat.le_refl _) (Nat.le_of_ble_eq_true rfl) rfl dX2_readRun_22 ?_
        refine g_aload_n hX (pc := 25) (i := 0) dX2_readRun_25 rfl 0 rfl ?_
        refine gf2_3 hX (pc := 26) ho0 fl_X2_22 dX2_readRun_26 ?_
        refine g_icmp_ne hX (pc := 29) dX2_readRun_29 (tgt := 69) (by decide) (fun c7 => ?_) (fun c7 => ?_)
        · replace h := ifP c7 h
          refine g_iload hX (pc := 32) dX2_readRun_32 4 rfl ?_
          refine g_aload_n hX (pc := 34) (i := 0) dX2_readRun_34 rfl 0 rfl ?_
          refine gf2_2 hX (pc := 35) ho0 fl_X2_19 dX2_readRun_35 ?_
          refine g_isub hX (pc := 38) dX2_readRun_38 ?_
          refine g_iload_n hX (pc := 39) (i := 1) dX2_readRun_39 rfl 1 rfl ?_
          obtain ⟨p12, hpj9, h⟩ := bnd h
          have Kj9 : ∀ qj9 : MI, qj9 = p12 → GW E X (QX E X 0 0 none z J Iz) 5 63 [(0, .ref o0), (1, .int x1), (2, .int x2), (3, .int x3), (4, .int s1)] [] z J qj9 0 0 := by
            intro qj9 hqj9
            subst hqj9
            refine g_iinc hX (pc := 63) (i := 4) (v := s1 + 1) (ls' := [(0, .ref o0), (1, .int x1), (2, .int x2), (3, .int x3), (4, .int (s1 + 1))]) 4 [1, 2, 3, 4, 0] dX2_readRun_63 rfl (by rfl) (by decide) rfl ?_
            refine g_goto hX (pc := 66) (tgt := 6) dX2_readRun_66 (by decide) ?_
            obtain rfl := Option.some.inj h
            exact ihl3 (s1 + 1) qj9 hwl3
          replace h := hpj9
          clear hpj9
          refine g_icmp_ge hX (pc := 40) dX2_readRun_40 (tgt := 63) (by decide) (fun c8 => ?_) (fun c8 => ?_)
          · replace h := ifP c8 h
            refine g_aload_n hX (pc := 43) (i := 0) dX2_readRun_43 rfl 0 rfl ?_
            refine g_aload_n hX (pc := 44) (i := 0) dX2_readRun_44 rfl 0 rfl ?_
            refine gf2_5 hX (pc := 45) ho0 fl_X2_28 dX2_readRun_45 ?_
            refine g_iload_n hX (pc := 48) (i := 2) dX2_readRun_48 rfl 2 rfl ?_
            refine g_imul hX (pc := 49) dX2_readRun_49 ?_
            refine g_aload_n hX (pc := 50) (i := 0) dX2_readRun_50 rfl 0 rfl ?_
            refine gf2_0 hX (pc := 51) ho0 fl_X2_9 dX2_readRun_51 ?_
            refine g_iload hX (pc := 54) dX2_readRun_54 4 rfl ?_
            obtain ⟨v10, e_v10, h⟩ := bnd h
            refine g_baloadE hX (pc := 56) ho0.2.2.1 ho0.2.2.2.1 ho0.2.2.2.2 e_v10 dX2_readRun_56 ?_
            refine g_iadd hX (pc := 57) dX2_readRun_57 ?_
            refine g_iload_n hX (pc := 58) (i := 3) dX2_readRun_58 rfl 3 rfl ?_
            refine g_isub hX (pc := 59) dX2_readRun_59 ?_
            obtain ⟨I11, e_I11, h⟩ := bnd h
            refine pf2_5 hX (pc := 60) ho0 fl_X2_28 dX2_readRun_60 e_I11 ?_
            exact Kj9 I11 (Option.some.inj h)
          · replace h := ifN c8 h
            exact Kj9 I2 (Option.some.inj h)
        · replace h := ifN c7 h
          obtain rfl := Option.some.inj h
          exact Kl3 ((s1, I2)) hwl3
      · replace h := ifN c4 h
        obtain rfl := Option.some.inj h
        exact Kl3 ((s1, I2)) hwl3
  exact Ll3 kl3 (I o0 2) I hkl3
noncomputable def f_X3_clear (o0 : Nat) (I : MI) : Option (MI) :=
  (wf I o0 0 0).bind fun I1 =>
  (wf I1 o0 1 4).bind fun I2 =>
  (wf I2 o0 2 0).bind fun I3 =>
  (wf I3 o0 3 4).bind fun I4 =>
  (wf I4 o0 4 30).bind fun I5 =>
  (wf I5 o0 5 0).bind fun I6 =>
  (wf I6 o0 6 0).bind fun I7 =>
  (wf I7 o0 10 0).bind fun I8 =>
  (f_J7_fill_53178 (o0 + 6) 160 0 I8).bind fun r9 =>
  (f_J7_fill_53178 (o0 + 7) 16 0 r9).bind fun r10 =>
  (f_J7_fill_53178 (o0 + 8) 16 0 r10).bind fun r11 =>
  some r11
theorem nm_X3_clear : yX3_clear.cls ≠ "java/lang/invoke/MethodHandle" ∧ yX3_clear.cls ≠ "java/lang/invoke/VarHandle" ∧ (parseMethodDescriptor yX3_clear.desc).map (fun d => d.parameters.length) = some 0 := by decide +kernel
set_option maxRecDepth 100000 in
set_option maxHeartbeats 4000000 in
theorem ct_X3_clear {E : Ev} {d : Nat} {z : Sh} {J : MJ} {I : MI} {o0 : Nat} {Iz : MI} (ho0 : oX3 z o0) (h : f_X3_clear o0 I = some Iz) : Ct E (d + 1) yX3_clear cX3_clear 1 none 0 0 [.ref o0] z J I none z J Iz := by
  unfold f_X3_clear at h
  refine Ct.of (own := RX3) (ls := [(0, .ref o0)]) (by decide) rfl (Nat.le_of_ble_eq_true rfl) rfl ?_
  intro X hr0 hnm hX
  refine g_aload_n hX (pc := 0) (i := 0) dX3_clear_0 rfl 0 rfl ?_
  refine g_iconst hX (pc := 1) (v := 0) dX3_clear_1 (by decide) ?_
  obtain ⟨I1, e_I1, h⟩ := bnd h
  refine pf3_0 hX (pc := 2) ho0 fl_X3_9 dX3_clear_2 e_I1 ?_
  refine g_aload_n hX (pc := 5) (i := 0) dX3_clear_5 rfl 0 rfl ?_
  refine g_iconst hX (pc := 6) (v := 4) dX3_clear_6 (by decide) ?_
  obtain ⟨I2, e_I2, h⟩ := bnd h
  refine pf3_1 hX (pc := 7) ho0 fl_X3_15 dX3_clear_7 e_I2 ?_
  refine g_aload_n hX (pc := 10) (i := 0) dX3_clear_10 rfl 0 rfl ?_
  refine g_iconst hX (pc := 11) (v := 0) dX3_clear_11 (by decide) ?_
  obtain ⟨I3, e_I3, h⟩ := bnd h
  refine pf3_2 hX (pc := 12) ho0 fl_X3_18 dX3_clear_12 e_I3 (by decide) ?_
  refine g_aload_n hX (pc := 15) (i := 0) dX3_clear_15 rfl 0 rfl ?_
  refine g_iconst hX (pc := 16) (v := 4) dX3_clear_16 (by decide) ?_
  obtain ⟨I4, e_I4, h⟩ := bnd h
  refine pf3_3 hX (pc := 17) ho0 fl_X3_22 dX3_clear_17 e_I4 ?_
  refine g_aload_n hX (pc := 20) (i := 0) dX3_clear_20 rfl 0 rfl ?_
  refine g_bipush hX (pc := 21) (v := 30) dX3_clear_21 (by decide) ?_
  obtain ⟨I5, e_I5, h⟩ := bnd h
  refine pf3_4 hX (pc := 23) ho0 fl_X3_25 dX3_clear_23 e_I5 ?_
  refine g_aload_n hX (pc := 26) (i := 0) dX3_clear_26 rfl 0 rfl ?_
  refine g_iconst hX (pc := 27) (v := 0) dX3_clear_27 (by decide) ?_
  obtain ⟨I6, e_I6, h⟩ := bnd h
  refine pf3_5 hX (pc := 28) ho0 fl_X3_28 dX3_clear_28 e_I6 (by decide) ?_
  refine g_aload_n hX (pc := 31) (i := 0) dX3_clear_31 rfl 0 rfl ?_
  refine g_iconst hX (pc := 32) (v := 0) dX3_clear_32 (by decide) ?_
  obtain ⟨I7, e_I7, h⟩ := bnd h
  refine pf3_6 hX (pc := 33) ho0 fl_X3_31 dX3_clear_33 e_I7 ?_
  refine g_aload_n hX (pc := 36) (i := 0) dX3_clear_36 rfl 0 rfl ?_
  refine g_iconst hX (pc := 37) (v := 0) dX3_clear_37 (by decide) ?_
  obtain ⟨I8, e_I8, h⟩ := bnd h
  refine pf3_10 hX (pc := 38) ho0 fl_X3_44 dX3_clear_38 e_I8 ?_
  refine g_aload_n hX (pc := 41) (i := 0) dX3_clear_41 rfl 0 rfl ?_
  refine gf3_13 hX (pc := 42) ho0 fl_X3_53 dX3_clear_42 ?_
  refine g_iconst hX (pc := 45) (v := 0) dX3_clear_45 (by decide) ?_
  obtain ⟨r9, e_r9, h⟩ := bnd h
  refine g_callSv hX (pc := 46) (d := d + 0) hr0 [.ref (o0 + 6), .int 0] (ct_J7_fill_53178 (d := d + 0) ⟨(s3_13 ho0).1, (s3_13 ho0).2.1, (s3_13 ho0).2.2.1⟩ e_r9) co_J7_fill_53178 ml_X3_65 sta_J7_fill_53178 ini_J7 nm_J7_fill_53178 (by decide) ⟨Nat.le_refl _, Nat.le_refl _⟩ (Nat.le_refl _) (Nat.le_of_ble_eq_true rfl) rfl dX3_clear_46 ?_
  refine g_aload_n hX (pc := 49) (i := 0) dX3_clear_49 rfl 0 rfl ?_
  refine gf3_14 hX (pc := 50) ho0 fl_X3_56 dX3_clear_50 ?_
  refine g_iconst hX (pc := 53) (v := 0) dX3_clear_53 (by decide) ?_
  obtain ⟨r10, e_r10, h⟩ := bnd h
  refine g_callSv hX (pc := 54) (d := d + 0) hr0 [.ref (o0 + 7), .int 0] (ct_J7_fill_53178 (d := d + 0) ⟨(s3_14 ho0).1, (s3_14 ho0).2.1, (s3_14 ho0).2.2.1⟩ e_r10) co_J7_fill_53178 ml_X3_65 sta_J7_fill_53178 ini_J7 nm_J7_fill_53178 (by decide) ⟨Nat.le_refl _, Nat.le_refl _⟩ (Nat.le_refl _) (Nat.le_of_ble_eq_true rfl) rfl dX3_clear_54 ?_
  refine g_aload_n hX (pc := 57) (i := 0) dX3_clear_57 rfl 0 rfl ?_
  refine gf3_15 hX (pc := 58) ho0 fl_X3_59 dX3_clear_58 ?_
  refine g_iconst hX (pc := 61) (v := 0) dX3_clear_61 (by decide) ?_
  obtain ⟨r11, e_r11, h⟩ := bnd h
  refine g_callSv hX (pc := 62) (d := d + 0) hr0 [.ref (o0 + 8), .int 0] (ct_J7_fill_53178 (d := d + 0) ⟨(s3_15 ho0).1, (s3_15 ho0).2.1, (s3_15 ho0).2.2.1⟩ e_r11) co_J7_fill_53178 ml_X3_65 sta_J7_fill_53178 ini_J7 nm_J7_fill_53178 (by decide) ⟨Nat.le_refl _, Nat.le_refl _⟩ (Nat.le_refl _) (Nat.le_of_ble_eq_true rfl) rfl dX3_clear_62 ?_
  obtain rfl := Option.some.inj h
  exact g_return hX (Nat.le_refl _) (Nat.le_refl _) dX3_clear_65
noncomputable def b_X3_bestToJoin_12 (o0 : Nat) (x1 : Int32) (x2 : Int32) (x3 : Int32) (I : MI) (s : Int32 × Int32 × Int32 × Int32) : Option ((Int32 × Int32 × Int32 × Int32) ⊕ (Int32 × Int32 × Int32 × Int32)) :=
  if s.2.2.2 < (I o0 10) then
    (rd 16 (I (o0 + 9)) s.2.2.2).bind fun v7 =>
    (f_X4_hasBit x2 v7).bind fun r8 =>
    (if r8 = 0 then
      some ((s.1, s.2.1, s.2.2.1))
    else
      (rd 16 (I (o0 + 7)) v7).bind fun v11 =>
      if x3 < v11 then
        some ((s.1, s.2.1, s.2.2.1))
      else
        (rd 16 (I (o0 + 8)) v7).bind fun v13 =>
        (f_J6_bitCount_0f7a4 (v13 &&& x1)).bind fun r14 =>
        (rd 16 (I (o0 + 8)) v7).bind fun v15 =>
        (f_J6_bitCount_0f7a4 (v15 &&& (x1 ^^^ ((-1))))).bind fun r16 =>
        if s.1 = ((-1)) then
          some ((v7, r14, r16))
        else
          if s.2.1 < r14 then
            some ((v7, r14, r16))
          else
            if r14 = s.2.1 then
              if r16 < s.2.2.1 then
                some ((v7, r14, r16))
              else
                some ((s.1, s.2.1, s.2.2.1))
            else
              some ((s.1, s.2.1, s.2.2.1))).bind fun (p21 : Int32 × Int32 × Int32) =>
    some (.inl ((p21.1, p21.2.1, p21.2.2, s.2.2.2 + 1)))
  else
    some (.inr ((s.1, s.2.1, s.2.2.1, s.2.2.2)))
noncomputable def f_X3_bestToJoin (o0 : Nat) (x1 : Int32) (x2 : Int32) (x3 : Int32) (I : MI) : Option (Int32) :=
  (lp (b_X3_bestToJoin_12 o0 x1 x2 x3 I) (((-1), 0, 0, 0))).bind fun p22 =>
  some p22.1
theorem nm_X3_bestToJoin : yX3_bestToJoin.cls ≠ "java/lang/invoke/MethodHandle" ∧ yX3_bestToJoin.cls ≠ "java/lang/invoke/VarHandle" ∧ (parseMethodDescriptor yX3_bestToJoin.desc).map (fun d => d.parameters.length) = some 3 := by decide +kernel
set_option maxRecDepth 100000 in
set_option maxHeartbeats 4000000 in
theorem ct_X3_bestToJoin {E : Ev} {d : Nat} {z : Sh} {J : MJ} {I : MI} {o0 : Nat} {x1 : Int32} {x2 : Int32} {x3 : Int32} {rr : Int32} (ho0 : oX3 z o0) (h : f_X3_bestToJoin o0 x1 x2 x3 I = some rr) : Ct E (d + 1) yX3_bestToJoin cX3_bestToJoin 11 (some .int) 0 0 [.ref o0, .int x1, .int x2, .int x3] z J I (some (.int rr)) z J I := by
  unfold f_X3_bestToJoin at h
  refine Ct.of (own := RX3) (ls := [(0, .ref o0), (1, .int x1), (2, .int x2), (3, .int x3)]) (by decide) rfl (Nat.le_of_ble_eq_true rfl) rfl ?_
  intro X hr0 hnm hX
  refine g_iconst hX (pc := 0) (v := (-1)) dX3_bestToJoin_0 (by decide) ?_
  refine g_istore hX (pc := 1) (ls' := [(0, .ref o0), (1, .int x1), (2, .int x2), (3, .int x3), (4, .int ((-1)))]) [1, 2, 3, 4, 0] dX3_bestToJoin_1 (by decide) rfl ?_
  refine g_iconst hX (pc := 3) (v := 0) dX3_bestToJoin_3 (by decide) ?_
  refine g_istore hX (pc := 4) (ls' := [(0, .ref o0), (1, .int x1), (2, .int x2), (3, .int x3), (4, .int ((-1))), (5, .int 0)]) [1, 2, 3, 4, 5, 0] dX3_bestToJoin_4 (by decide) rfl ?_
  refine g_iconst hX (pc := 6) (v := 0) dX3_bestToJoin_6 (by decide) ?_
  refine g_istore hX (pc := 7) (ls' := [(0, .ref o0), (1, .int x1), (2, .int x2), (3, .int x3), (4, .int ((-1))), (5, .int 0), (6, .int 0)]) [1, 2, 3, 4, 5, 6, 0] dX3_bestToJoin_7 (by decide) rfl ?_
  refine g_iconst hX (pc := 9) (v := 0) dX3_bestToJoin_9 (by decide) ?_
  refine g_istore hX (pc := 10) (ls' := [(0, .ref o0), (1, .int x1), (2, .int x2), (3, .int x3), (4, .int ((-1))), (5, .int 0), (6, .int 0), (7, .int 0)]) [1, 2, 3, 4, 5, 6, 7, 0] dX3_bestToJoin_10 (by decide) rfl ?_
  obtain ⟨p22, hpl5, h⟩ := bnd h
  have Kl5 : ∀ ql5 : Int32 × Int32 × Int32 × Int32, ql5 = p22 → GW E X (QX E X 0 0 (some (.int rr)) z J I) 11 128 [(0, .ref o0), (1, .int x1), (2, .int x2), (3, .int x3), (4, .int ql5.1), (5, .int ql5.2.1), (6, .int ql5.2.2.1), (7, .int ql5.2.2.2)] [] z J I 0 0 := by
    intro ql5 hql5
    subst hql5
    refine g_iload hX (pc := 128) dX3_bestToJoin_128 4 rfl ?_
    obtain rfl := Option.some.inj h
    exact g_ireturn hX (Nat.le_refl _) (Nat.le_refl _) dX3_bestToJoin_130
  obtain ⟨kl5, hkl5⟩ := lp_ex hpl5
  clear hpl5 h
  have Ll5 : ∀ k : Nat, ∀ (s1 : Int32) (s2 : Int32) (s3 : Int32) (s4 : Int32), lpN k (b_X3_bestToJoin_12 o0 x1 x2 x3 I) ((s1, s2, s3, s4)) = some p22 → GW E X (QX E X 0 0 (some (.int rr)) z J I) 11 12 [(0, .ref o0), (1, .int x1), (2, .int x2), (3, .int x3), (4, .int s1), (5, .int s2), (6, .int s3), (7, .int s4)] [] z J I 0 0 := by
    intro k
    induction k with
    | zero => intro s1 s2 s3 s4 h; cases h
    | succ k ihl5 =>
      intro s1 s2 s3 s4 h
      obtain ⟨wl5, h, hwl5⟩ := lpN_s h
      unfold b_X3_bestToJoin_12 at h
      try dsimp only at h
      refine g_iload hX (pc := 12) dX3_bestToJoin_12 7 rfl ?_
      refine g_aload_n hX (pc := 14) (i := 0) dX3_bestToJoin_14 rfl 0 rfl ?_
      refine gf3_10 hX (pc := 15) ho0 fl_X3_44 dX3_bestToJoin_15 ?_
      refine g_icmp_ge hX (pc := 18) dX3_bestToJoin_18 (tgt := 128) (by decide) (fun c6 => ?_) (fun c6 => ?_)
      · replace h := ifP c6 h
        refine g_aload_n hX (pc := 21) (i := 0) dX3_bestToJoin_21 rfl 0 rfl ?_
        refine gf3_16 hX (pc := 22) ho0 fl_X3_62 dX3_bestToJoin_22 ?_
        refine g_iload hX (pc := 25) dX3_bestToJoin_25 7 rfl ?_
        obtain ⟨v7, e_v7, h⟩ := bnd h
        refine g_ialoadE hX (pc := 27) (s3_16 ho0).1 (s3_16 ho0).2.1 (s3_16 ho0).2.2.1 e_v7 dX3_bestToJoin_27 ?_
        refine g_istore hX (pc := 28) (ls' := [(0, .ref o0), (1, .int x1), (2, .int x2), (3, .int x3), (4, .int s1), (5, .int s2), (6, .int s3), (7, .int s4), (8, .int v7)]) [1, 2, 3, 4, 5, 6, 7, 8, 0] dX3_bestToJoin_28 (by decide) rfl ?_
        refine g_iload_n hX (pc := 30) (i := 2) dX3_bestToJoin_30 rfl 2 rfl ?_
        refine g_iload hX (pc := 31) dX3_bestToJoin_31 8 rfl ?_
        obtain ⟨r8, e_r8, h⟩ := bnd h
        refine g_callSNi hX (pc := 33) (d := d + 0) hr0 [.int x2, .int v7] (host := RX4) (ct_X4_hasBit (d := d + 0)  e_r8) co_X4_hasBit (by decide) sta_X4_hasBit ini_X4 nm_X4_hasBit (by decide) ⟨Nat.le_refl _, Nat.le_refl _⟩ (Nat.le_refl _) (Nat.le_of_ble_eq_true rfl) rfl dX3_bestToJoin_33 ?_
        obtain ⟨p21, hpj10, h⟩ := bnd h
        have Kj10 : ∀ qj10 : Int32 × Int32 × Int32, qj10 = p21 → GW E X (QX E X 0 0 (some (.int rr)) z J I) 11 122 [(0, .ref o0), (1, .int x1), (2, .int x2), (3, .int x3), (4, .int qj10.1), (5, .int qj10.2.1), (6, .int qj10.2.2), (7, .int s4), (8, .int v7)] [] z J I 0 0 := by
          intro qj10 hqj10
          subst hqj10
          refine g_iinc hX (pc := 122) (i := 7) (v := s4 + 1) (ls' := [(0, .ref o0), (1, .int x1), (2, .int x2), (3, .int x3), (4, .int qj10.1), (5, .int qj10.2.1), (6, .int qj10.2.2), (7, .int (s4 + 1)), (8, .int v7)]) 7 [1, 2, 3, 4, 5, 6, 7, 0, 8] dX3_bestToJoin_122 rfl (by rfl) (by decide) rfl ?_
          refine g_goto hX (pc := 125) (tgt := 12) dX3_bestToJoin_125 (by decide) ?_
          refine g_sub (ls' := [(0, .ref o0), (1, .int x1), (2, .int x2), (3, .int x3), (4, .int qj10.1), (5, .int qj10.2.1), (6, .int qj10.2.2), (7, .int (s4 + 1))]) [0, 1, 2, 3, 4, 5, 6, 7] rfl ?_
          obtain rfl := Option.some.inj h
          exact ihl5 qj10.1 qj10.2.1 qj10.2.2 (s4 + 1) hwl5
        replace h := hpj10
        clear hpj10
        refine g_if_eq hX (pc := 36) dX3_bestToJoin_36 (tgt := 122) (by decide) (fun c9 => ?_) (fun c9 => ?_)
        · replace h := ifP c9 h
          exact Kj10 ((s1, s2, s3)) (Option.some.inj h)
        · replace h := ifN c9 h
          refine g_aload_n hX (pc := 39) (i := 0) dX3_bestToJoin_39 rfl 0 rfl ?_
          refine gf3_14 hX (pc := 40) ho0 fl_X3_56 dX3_bestToJoin_40 ?_
          refine g_iload hX (pc := 43) dX3_bestToJoin_43 8 rfl ?_
          obtain ⟨v11, e_v11, h⟩ := bnd h
          refine g_ialoadE hX (pc := 45) (s3_14 ho0).1 (s3_14 ho0).2.1 (s3_14 ho0).2.2.1 e_v11 dX3_bestToJoin_45 ?_
          refine g_iload_n hX (pc := 46) (i := 3) dX3_bestToJoin_46 rfl 3 rfl ?_
          refine g_icmp_le hX (pc := 47) dX3_bestToJoin_47 (tgt := 53) (by decide) (fun c12 => ?_) (fun c12 => ?_)
          · replace h := ifP c12 h
            refine g_goto hX (pc := 50) (tgt := 122) dX3_bestToJoin_50 (by decide) ?_
            exact Kj10 ((s1, s2, s3)) (Option.some.inj h)
          · replace h := ifN c12 h
            refine g_aload_n hX (pc := 53) (i := 0) dX3_bestToJoin_53 rfl 0 rfl ?_
            refine gf3_15 hX (pc := 54) ho0 fl_X3_59 dX3_bestToJoin_54 ?_
            refine g_iload hX (pc := 57) dX3_bestToJoin_57 8 rfl ?_
            obtain ⟨v13, e_v13, h⟩ := bnd h
            refine g_ialoadE hX (pc := 59) (s3_15 ho0).1 (s3_15 ho0).2.1 (s3_15 ho0).2.2.1 e_v13 dX3_bestToJoin_59 ?_
            refine g_iload_n hX (pc := 60) (i := 1) dX3_bestToJoin_60 rfl 1 rfl ?_
            refine g_iand hX (pc := 61) dX3_bestToJoin_61 ?_
            obtain ⟨r14, e_r14, h⟩ := bnd h
            refine g_callSi hX (pc := 62) (d := d + 0) hr0 [.int (v13 &&& x1)] (ct_J6_bitCount_0f7a4 (d := d + 0)  e_r14) co_J6_bitCount_0f7a4 ml_X3_100 sta_J6_bitCount_0f7a4 ini_J6 nm_J6_bitCount_0f7a4 (by decide) ⟨Nat.le_refl _, Nat.le_refl _⟩ (Nat.le_refl _) (Nat.le_of_ble_eq_true rfl) rfl dX3_bestToJoin_62 ?_
            refine g_istore hX (pc := 65) (ls' := [(0, .ref o0), (1, .int x1), (2, .int x2), (3, .int x3), (4, .int s1), (5, .int s2), (6, .int s3), (7, .int s4), (8, .int v7), (9, .int r14)]) [1, 2, 3, 4, 5, 6, 7, 8, 9, 0] dX3_bestToJoin_65 (by decide) rfl ?_
            refine g_aload_n hX (pc := 67) (i := 0) dX3_bestToJoin_67 rfl 0 rfl ?_
            refine gf3_15 hX (pc := 68) ho0 fl_X3_59 dX3_bestToJoin_68 ?_
            refine g_iload hX (pc := 71) dX3_bestToJoin_71 8 rfl ?_
            obtain ⟨v15, e_v15, h⟩ := bnd h
            refine g_ialoadE hX (pc := 73) (s3_15 ho0).1 (s3_15 ho0).2.1 (s3_15 ho0).2.2.1 e_v15 dX3_bestToJoin_73 ?_
            refine g_iload_n hX (pc := 74) (i := 1) dX3_bestToJoin_74 rfl 1 rfl ?_
            refine g_iconst hX (pc := 75) (v := (-1)) dX3_bestToJoin_75 (by decide) ?_
            refine g_ixor hX (pc := 76) dX3_bestToJoin_76 ?_
            refine g_iand hX (pc := 77) dX3_bestToJoin_77 ?_
            obtain ⟨r16, e_r16, h⟩ := bnd h
            refine g_callSi hX (pc := 78) (d := d + 0) hr0 [.int (v15 &&& (x1 ^^^ ((-1))))] (ct_J6_bitCount_0f7a4 (d := d + 0)  e_r16) co_J6_bitCount_0f7a4 ml_X3_100 sta_J6_bitCount_0f7a4 ini_J6 nm_J6_bitCount_0f7a4 (by decide) ⟨Nat.le_refl _, Nat.le_refl _⟩ (Nat.le_refl _) (Nat.le_of_ble_eq_true rfl) rfl dX3_bestToJoin_78 ?_
            refine g_istore hX (pc := 81) (ls' := [(0, .ref o0), (1, .int x1), (2, .int x2), (3, .int x3), (4, .int s1), (5, .int s2), (6, .int s3), (7, .int s4), (8, .int v7), (9, .int r14), (10, .int r16)]) [1, 2, 3, 4, 5, 6, 7, 8, 9, 10, 0] dX3_bestToJoin_81 (by decide) rfl ?_
            refine g_iload hX (pc := 83) dX3_bestToJoin_83 4 rfl ?_
            refine g_iconst hX (pc := 85) (v := (-1)) dX3_bestToJoin_85 (by decide) ?_
            refine g_icmp_eq hX (pc := 86) dX3_bestToJoin_86 (tgt := 110) (by decide) (fun c17 => ?_) (fun c17 => ?_)
            · replace h := ifP c17 h
              refine g_iload hX (pc := 110) dX3_bestToJoin_110 8 rfl ?_
              refine g_istore hX (pc := 112) (ls' := [(0, .ref o0), (1, .int x1), (2, .int x2), (3, .int x3), (4, .int v7), (5, .int s2), (6, .int s3), (7, .int s4), (8, .int v7), (9, .int r14), (10, .int r16)]) [1, 2, 3, 4, 0, 5, 6, 7, 8, 9, 10] dX3_bestToJoin_112 (by decide) rfl ?_
              refine g_iload hX (pc := 114) dX3_bestToJoin_114 9 rfl ?_
              refine g_istore hX (pc := 116) (ls' := [(0, .ref o0), (1, .int x1), (2, .int x2), (3, .int x3), (4, .int v7), (5, .int r14), (6, .int s3), (7, .int s4), (8, .int v7), (9, .int r14), (10, .int r16)]) [1, 2, 3, 4, 5, 0, 6, 7, 8, 9, 10] dX3_bestToJoin_116 (by decide) rfl ?_
              refine g_iload hX (pc := 118) dX3_bestToJoin_118 10 rfl ?_
              refine g_istore hX (pc := 120) (ls' := [(0, .ref o0), (1, .int x1), (2, .int x2), (3, .int x3), (4, .int v7), (5, .int r14), (6, .int r16), (7, .int s4), (8, .int v7), (9, .int r14), (10, .int r16)]) [1, 2, 3, 4, 5, 6, 0, 7, 8, 9, 10] dX3_bestToJoin_120 (by decide) rfl ?_
              refine g_sub (ls' := [(0, .ref o0), (1, .int x1), (2, .int x2), (3, .int x3), (4, .int v7), (5, .int r14), (6, .int r16), (7, .int s4), (8, .int v7)]) [0, 1, 2, 3, 4, 5, 6, 7, 8] rfl ?_
              exact Kj10 ((v7, r14, r16)) (Option.some.inj h)
            · replace h := ifN c17 h
              refine g_iload hX (pc := 89) dX3_bestToJoin_89 9 rfl ?_
              refine g_iload hX (pc := 91) dX3_bestToJoin_91 5 rfl ?_
              refine g_icmp_gt hX (pc := 93) dX3_bestToJoin_93 (tgt := 110) (by decide) (fun c18 => ?_) (fun c18 => ?_)
              · replace h := ifP c18 h
                refine g_iload hX (pc := 110) dX3_bestToJoin_110 8 rfl ?_
                refine g_istore hX (pc := 112) (ls' := [(0, .ref o0), (1, .int x1), (2, .int x2), (3, .int x3), (4, .int v7), (5, .int s2), (6, .int s3), (7, .int s4), (8, .int v7), (9, .int r14), (10, .int r16)]) [1, 2, 3, 4, 0, 5, 6, 7, 8, 9, 10] dX3_bestToJoin_112 (by decide) rfl ?_
                refine g_iload hX (pc := 114) dX3_bestToJoin_114 9 rfl ?_
                refine g_istore hX (pc := 116) (ls' := [(0, .ref o0), (1, .int x1), (2, .int x2), (3, .int x3), (4, .int v7), (5, .int r14), (6, .int s3), (7, .int s4), (8, .int v7), (9, .int r14), (10, .int r16)]) [1, 2, 3, 4, 5, 0, 6, 7, 8, 9, 10] dX3_bestToJoin_116 (by decide) rfl ?_
                refine g_iload hX (pc := 118) dX3_bestToJoin_118 10 rfl ?_
                refine g_istore hX (pc := 120) (ls' := [(0, .ref o0), (1, .int x1), (2, .int x2), (3, .int x3), (4, .int v7), (5, .int r14), (6, .int r16), (7, .int s4), (8, .int v7), (9, .int r14), (10, .int r16)]) [1, 2, 3, 4, 5, 6, 0, 7, 8, 9, 10] dX3_bestToJoin_120 (by decide) rfl ?_
                refine g_sub (ls' := [(0, .ref o0), (1, .int x1), (2, .int x2), (3, .int x3), (4, .int v7), (5, .int r14), (6, .int r16), (7, .int s4), (8, .int v7)]) [0, 1, 2, 3, 4, 5, 6, 7, 8] rfl ?_
                exact Kj10 ((v7, r14, r16)) (Option.some.inj h)
              · replace h := ifN c18 h
                refine g_iload hX (pc := 96) dX3_bestToJoin_96 9 rfl ?_
                refine g_iload hX (pc := 98) dX3_bestToJoin_98 5 rfl ?_
                refine g_icmp_ne hX (pc := 100) dX3_bestToJoin_100 (tgt := 122) (by decide) (fun c19 => ?_) (fun c19 => ?_)
                · replace h := ifP c19 h
                  refine g_iload hX (pc := 103) dX3_bestToJoin_103 10 rfl ?_
                  refine g_iload hX (pc := 105) dX3_bestToJoin_105 6 rfl ?_
                  refine g_icmp_ge hX (pc := 107) dX3_bestToJoin_107 (tgt := 122) (by decide) (fun c20 => ?_) (fun c20 => ?_)
                  · replace h := ifP c20 h
                    refine g_iload hX (pc := 110) dX3_bestToJoin_110 8 rfl ?_
                    refine g_istore hX (pc := 112) (ls' := [(0, .ref o0), (1, .int x1), (2, .int x2), (3, .int x3), (4, .int v7), (5, .int s2), (6, .int s3), (7, .int s4), (8, .int v7), (9, .int r14), (10, .int r16)]) [1, 2, 3, 4, 0, 5, 6, 7, 8, 9, 10] dX3_bestToJoin_112 (by decide) rfl ?_
                    refine g_iload hX (pc := 114) dX3_bestToJoin_114 9 rfl ?_
                    refine g_istore hX (pc := 116) (ls' := [(0, .ref o0), (1, .int x1), (2, .int x2), (3, .int x3), (4, .int v7), (5, .int r14), (6, .int s3), (7, .int s4), (8, .int v7), (9, .int r14), (10, .int r16)]) [1, 2, 3, 4, 5, 0, 6, 7, 8, 9, 10] dX3_bestToJoin_116 (by decide) rfl ?_
                    refine g_iload hX (pc := 118) dX3_bestToJoin_118 10 rfl ?_
                    refine g_istore hX (pc := 120) (ls' := [(0, .ref o0), (1, .int x1), (2, .int x2), (3, .int x3), (4, .int v7), (5, .int r14), (6, .int r16), (7, .int s4), (8, .int v7), (9, .int r14), (10, .int r16)]) [1, 2, 3, 4, 5, 6, 0, 7, 8, 9, 10] dX3_bestToJoin_120 (by decide) rfl ?_
                    refine g_sub (ls' := [(0, .ref o0), (1, .int x1), (2, .int x2), (3, .int x3), (4, .int v7), (5, .int r14), (6, .int r16), (7, .int s4), (8, .int v7)]) [0, 1, 2, 3, 4, 5, 6, 7, 8] rfl ?_
                    exact Kj10 ((v7, r14, r16)) (Option.some.inj h)
                  · replace h := ifN c20 h
                    refine g_sub (ls' := [(0, .ref o0), (1, .int x1), (2, .int x2), (3, .int x3), (4, .int s1), (5, .int s2), (6, .int s3), (7, .int s4), (8, .int v7)]) [0, 1, 2, 3, 4, 5, 6, 7, 8] rfl ?_
                    exact Kj10 ((s1, s2, s3)) (Option.some.inj h)
                · replace h := ifN c19 h
                  refine g_sub (ls' := [(0, .ref o0), (1, .int x1), (2, .int x2), (3, .int x3), (4, .int s1), (5, .int s2), (6, .int s3), (7, .int s4), (8, .int v7)]) [0, 1, 2, 3, 4, 5, 6, 7, 8] rfl ?_
                  exact Kj10 ((s1, s2, s3)) (Option.some.inj h)
      · replace h := ifN c6 h
        obtain rfl := Option.some.inj h
        exact Kl5 ((s1, s2, s3, s4)) hwl5
  exact Ll5 kl5 ((-1)) 0 0 0 hkl5
