noncomputable def b_X4_wavesOfSize_17 (t0 : Nat) (x1 : Int32) (I : MI) (s : Int32 × Int32 × Int32) : Option ((Int32 × Int32 × Int32) ⊕ (Int32 × Int32 × Int32)) :=
  if s.2.2 < 16 then
    if s.1 = 0 then
      some (.inr ((s.1, s.2.1, s.2.2)))
    else
      (f_X3_gather t0 s.1 x1 I).bind fun r8 =>
      some (.inl ((s.1 &&& (r8 ^^^ ((-1))), s.2.1 + 1, s.2.2 + 1)))
  else
    some (.inr ((s.1, s.2.1, s.2.2)))
noncomputable def f_X4_wavesOfSize (o0 t0 u0 : Nat) (x1 : Int32) (I : MI) : Option (Int32) :=
  (f_X0_waiting (o0 + 24) t0 I).bind fun r1 =>
  (lp (b_X4_wavesOfSize_17 t0 x1 I) ((r1, 0, 0))).bind fun p9 =>
  some p9.2.1
theorem nm_X4_wavesOfSize : yX4_wavesOfSize.cls ≠ "java/lang/invoke/MethodHandle" ∧ yX4_wavesOfSize.cls ≠ "java/lang/invoke/VarHandle" ∧ (parseMethodDescriptor yX4_wavesOfSize.desc).map (fun d => d.parameters.length) = some 1 := by decide +kernel
set_option maxRecDepth 100000 in
set_option maxHeartbeats 4000000 in
theorem ct_X4_wavesOfSize {E : Ev} {d : Nat} {z : Sh} {J : MJ} {I : MI} {o0 t0 u0 : Nat} {x1 : Int32} {rr : Int32} (ho0 : oX4 z o0 t0 u0) (h : f_X4_wavesOfSize o0 t0 u0 x1 I = some rr) : Ct E (d + 3) yX4_wavesOfSize cX4_wavesOfSize 5 (some .int) 0 0 [.ref o0, .int x1] z J I (some (.int rr)) z J I := by
  unfold f_X4_wavesOfSize at h
  refine Ct.of (own := RX4) (ls := [(0, .ref o0), (1, .int x1)]) (by decide) rfl (Nat.le_of_ble_eq_true rfl) rfl ?_
  intro X hr0 hnm hX
  refine g_aload_n hX (pc := 0) (i := 0) dX4_wavesOfSize_0 rfl 0 rfl ?_
  refine gf4_5 hX (pc := 1) ho0 fl_X4_37 dX4_wavesOfSize_1 ?_
  refine g_aload_n hX (pc := 4) (i := 0) dX4_wavesOfSize_4 rfl 0 rfl ?_
  refine gf4_3 hX (pc := 5) ho0 fl_X4_27 dX4_wavesOfSize_5 ?_
  obtain ⟨r1, e_r1, h⟩ := bnd h
  refine g_callVi hX (pc := 8) (d := d + 2) hr0 [.ref t0] (c := 0) (ct_X0_waiting (d := d + 2) (s4_5 ho0).1 (s4_3 ho0).1 e_r1) (s4_5 ho0).1.1.1 (s4_5 ho0).1.1.2 (by decide) rfl co_X0_waiting ml_X4_254 im_X0_waiting sl_X0_waiting ini_X0 nm_X0_waiting (by decide) ⟨Nat.le_refl _, Nat.le_refl _⟩ (Nat.le_refl _) (Nat.le_of_ble_eq_true rfl) rfl dX4_wavesOfSize_8 ?_
  refine g_istore_n hX (pc := 11) (i := 2) (ls' := [(0, .ref o0), (1, .int x1), (2, .int r1)]) [1, 2, 0] dX4_wavesOfSize_11 rfl (by decide) rfl ?_
  refine g_iconst hX (pc := 12) (v := 0) dX4_wavesOfSize_12 (by decide) ?_
  refine g_istore_n hX (pc := 13) (i := 3) (ls' := [(0, .ref o0), (1, .int x1), (2, .int r1), (3, .int 0)]) [1, 2, 3, 0] dX4_wavesOfSize_13 rfl (by decide) rfl ?_
  refine g_iconst hX (pc := 14) (v := 0) dX4_wavesOfSize_14 (by decide) ?_
  refine g_istore hX (pc := 15) (ls' := [(0, .ref o0), (1, .int x1), (2, .int r1), (3, .int 0), (4, .int 0)]) [1, 2, 3, 4, 0] dX4_wavesOfSize_15 (by decide) rfl ?_
  obtain ⟨p9, hpl5, h⟩ := bnd h
  have Kl5 : ∀ ql5 : Int32 × Int32 × Int32, ql5 = p9 → GW E X (QX E X 0 0 (some (.int rr)) z J I) 5 51 [(0, .ref o0), (1, .int x1), (2, .int ql5.1), (3, .int ql5.2.1), (4, .int ql5.2.2)] [] z J I 0 0 := by
    intro ql5 hql5
    subst hql5
    refine g_iload_n hX (pc := 51) (i := 3) dX4_wavesOfSize_51 rfl 3 rfl ?_
    obtain rfl := Option.some.inj h
    exact g_ireturn hX (Nat.le_refl _) (Nat.le_refl _) dX4_wavesOfSize_52
  obtain ⟨kl5, hkl5⟩ := lp_ex hpl5
  clear hpl5 h
  have Ll5 : ∀ k : Nat, ∀ (s2 : Int32) (s3 : Int32) (s4 : Int32), lpN k (b_X4_wavesOfSize_17 t0 x1 I) ((s2, s3, s4)) = some p9 → GW E X (QX E X 0 0 (some (.int rr)) z J I) 5 17 [(0, .ref o0), (1, .int x1), (2, .int s2), (3, .int s3), (4, .int s4)] [] z J I 0 0 := by
    intro k
    induction k with
    | zero => intro s2 s3 s4 h; cases h
    | succ k ihl5 =>
      intro s2 s3 s4 h
      obtain ⟨wl5, h, hwl5⟩ := lpN_s h
      unfold b_X4_wavesOfSize_17 at h
      try dsimp only at h
      refine g_iload hX (pc := 17) dX4_wavesOfSize_17 4 rfl ?_
      refine g_bipush hX (pc := 19) (v := 16) dX4_wavesOfSize_19 (by decide) ?_
      refine g_icmp_ge hX (pc := 21) dX4_wavesOfSize_21 (tgt := 51) (by decide) (fun c6 => ?_) (fun c6 => ?_)
      · replace h := ifP c6 h
        refine g_iload_n hX (pc := 24) (i := 2) dX4_wavesOfSize_24 rfl 2 rfl ?_
        refine g_if_eq hX (pc := 25) dX4_wavesOfSize_25 (tgt := 51) (by decide) (fun c7 => ?_) (fun c7 => ?_)
        · replace h := ifP c7 h
          obtain rfl := Option.some.inj h
          exact Kl5 ((s2, s3, s4)) hwl5
        · replace h := ifN c7 h
          refine g_iload_n hX (pc := 28) (i := 2) dX4_wavesOfSize_28 rfl 2 rfl ?_
          refine g_aload_n hX (pc := 29) (i := 0) dX4_wavesOfSize_29 rfl 0 rfl ?_
          refine gf4_3 hX (pc := 30) ho0 fl_X4_27 dX4_wavesOfSize_30 ?_
          refine g_iload_n hX (pc := 33) (i := 2) dX4_wavesOfSize_33 rfl 2 rfl ?_
          refine g_iload_n hX (pc := 34) (i := 1) dX4_wavesOfSize_34 rfl 1 rfl ?_
          obtain ⟨r8, e_r8, h⟩ := bnd h
          refine g_callVi hX (pc := 35) (d := d + 2) hr0 [.int s2, .int x1] (c := 3) (ct_X3_gather (d := d + 0) (s4_3 ho0).1 e_r8) (s4_3 ho0).1.1.1 (s4_3 ho0).1.1.2 (by decide) rfl co_X3_gather ml_X4_271 im_X3_gather sl_X3_gather ini_X3 nm_X3_gather (by decide) ⟨Nat.le_refl _, Nat.le_refl _⟩ (Nat.le_refl _) (Nat.le_of_ble_eq_true rfl) rfl dX4_wavesOfSize_35 ?_
          refine g_iconst hX (pc := 38) (v := (-1)) dX4_wavesOfSize_38 (by decide) ?_
          refine g_ixor hX (pc := 39) dX4_wavesOfSize_39 ?_
          refine g_iand hX (pc := 40) dX4_wavesOfSize_40 ?_
          refine g_istore_n hX (pc := 41) (i := 2) (ls' := [(0, .ref o0), (1, .int x1), (2, .int (s2 &&& (r8 ^^^ ((-1))))), (3, .int s3), (4, .int s4)]) [1, 2, 0, 3, 4] dX4_wavesOfSize_41 rfl (by decide) rfl ?_
          refine g_iinc hX (pc := 42) (i := 3) (v := s3 + 1) (ls' := [(0, .ref o0), (1, .int x1), (2, .int (s2 &&& (r8 ^^^ ((-1))))), (3, .int (s3 + 1)), (4, .int s4)]) 3 [1, 2, 3, 0, 4] dX4_wavesOfSize_42 rfl (by rfl) (by decide) rfl ?_
          refine g_iinc hX (pc := 45) (i := 4) (v := s4 + 1) (ls' := [(0, .ref o0), (1, .int x1), (2, .int (s2 &&& (r8 ^^^ ((-1))))), (3, .int (s3 + 1)), (4, .int (s4 + 1))]) 4 [1, 2, 3, 4, 0] dX4_wavesOfSize_45 rfl (by rfl) (by decide) rfl ?_
          refine g_goto hX (pc := 48) (tgt := 17) dX4_wavesOfSize_48 (by decide) ?_
          obtain rfl := Option.some.inj h
          exact ihl5 (s2 &&& (r8 ^^^ ((-1)))) (s3 + 1) (s4 + 1) hwl5
      · replace h := ifN c6 h
        obtain rfl := Option.some.inj h
        exact Kl5 ((s2, s3, s4)) hwl5
  exact Ll5 kl5 r1 0 0 hkl5
noncomputable def b_X4_picksOfSize_17 (t0 : Nat) (x1 : Int32) (I : MI) (s : Int32 × Int32 × Int32) : Option ((Int32 × Int32 × Int32) ⊕ (Int32 × Int32 × Int32)) :=
  if s.2.2 < 16 then
    if s.1 = 0 then
      some (.inr ((s.1, s.2.1, s.2.2)))
    else
      (f_X3_gather t0 s.1 x1 I).bind fun r8 =>
      (f_X3_itemsOfAll t0 r8 I).bind fun r9 =>
      (f_J6_bitCount_0f7a4 r9).bind fun r10 =>
      some (.inl ((s.1 &&& (r8 ^^^ ((-1))), s.2.1 + r10, s.2.2 + 1)))
  else
    some (.inr ((s.1, s.2.1, s.2.2)))
noncomputable def f_X4_picksOfSize (o0 t0 u0 : Nat) (x1 : Int32) (I : MI) : Option (Int32) :=
  (f_X0_waiting (o0 + 24) t0 I).bind fun r1 =>
  (lp (b_X4_picksOfSize_17 t0 x1 I) ((r1, 0, 0))).bind fun p11 =>
  some p11.2.1
theorem nm_X4_picksOfSize : yX4_picksOfSize.cls ≠ "java/lang/invoke/MethodHandle" ∧ yX4_picksOfSize.cls ≠ "java/lang/invoke/VarHandle" ∧ (parseMethodDescriptor yX4_picksOfSize.desc).map (fun d => d.parameters.length) = some 1 := by decide +kernel
set_option maxRecDepth 100000 in
set_option maxHeartbeats 4000000 in
theorem ct_X4_picksOfSize {E : Ev} {d : Nat} {z : Sh} {J : MJ} {I : MI} {o0 t0 u0 : Nat} {x1 : Int32} {rr : Int32} (ho0 : oX4 z o0 t0 u0) (h : f_X4_picksOfSize o0 t0 u0 x1 I = some rr) : Ct E (d + 3) yX4_picksOfSize cX4_picksOfSize 6 (some .int) 0 0 [.ref o0, .int x1] z J I (some (.int rr)) z J I := by
  unfold f_X4_picksOfSize at h
  refine Ct.of (own := RX4) (ls := [(0, .ref o0), (1, .int x1)]) (by decide) rfl (Nat.le_of_ble_eq_true rfl) rfl ?_
  intro X hr0 hnm hX
  refine g_aload_n hX (pc := 0) (i := 0) dX4_picksOfSize_0 rfl 0 rfl ?_
  refine gf4_5 hX (pc := 1) ho0 fl_X4_37 dX4_picksOfSize_1 ?_
  refine g_aload_n hX (pc := 4) (i := 0) dX4_picksOfSize_4 rfl 0 rfl ?_
  refine gf4_3 hX (pc := 5) ho0 fl_X4_27 dX4_picksOfSize_5 ?_
  obtain ⟨r1, e_r1, h⟩ := bnd h
  refine g_callVi hX (pc := 8) (d := d + 2) hr0 [.ref t0] (c := 0) (ct_X0_waiting (d := d + 2) (s4_5 ho0).1 (s4_3 ho0).1 e_r1) (s4_5 ho0).1.1.1 (s4_5 ho0).1.1.2 (by decide) rfl co_X0_waiting ml_X4_254 im_X0_waiting sl_X0_waiting ini_X0 nm_X0_waiting (by decide) ⟨Nat.le_refl _, Nat.le_refl _⟩ (Nat.le_refl _) (Nat.le_of_ble_eq_true rfl) rfl dX4_picksOfSize_8 ?_
  refine g_istore_n hX (pc := 11) (i := 2) (ls' := [(0, .ref o0), (1, .int x1), (2, .int r1)]) [1, 2, 0] dX4_picksOfSize_11 rfl (by decide) rfl ?_
  refine g_iconst hX (pc := 12) (v := 0) dX4_picksOfSize_12 (by decide) ?_
  refine g_istore_n hX (pc := 13) (i := 3) (ls' := [(0, .ref o0), (1, .int x1), (2, .int r1), (3, .int 0)]) [1, 2, 3, 0] dX4_picksOfSize_13 rfl (by decide) rfl ?_
  refine g_iconst hX (pc := 14) (v := 0) dX4_picksOfSize_14 (by decide) ?_
  refine g_istore hX (pc := 15) (ls' := [(0, .ref o0), (1, .int x1), (2, .int r1), (3, .int 0), (4, .int 0)]) [1, 2, 3, 4, 0] dX4_picksOfSize_15 (by decide) rfl ?_
  obtain ⟨p11, hpl5, h⟩ := bnd h
  have Kl5 : ∀ ql5 : Int32 × Int32 × Int32, ql5 = p11 → GW E X (QX E X 0 0 (some (.int rr)) z J I) 6 67 [(0, .ref o0), (1, .int x1), (2, .int ql5.1), (3, .int ql5.2.1), (4, .int ql5.2.2)] [] z J I 0 0 := by
    intro ql5 hql5
    subst hql5
    refine g_iload_n hX (pc := 67) (i := 3) dX4_picksOfSize_67 rfl 3 rfl ?_
    obtain rfl := Option.some.inj h
    exact g_ireturn hX (Nat.le_refl _) (Nat.le_refl _) dX4_picksOfSize_68
  obtain ⟨kl5, hkl5⟩ := lp_ex hpl5
  clear hpl5 h
  have Ll5 : ∀ k : Nat, ∀ (s2 : Int32) (s3 : Int32) (s4 : Int32), lpN k (b_X4_picksOfSize_17 t0 x1 I) ((s2, s3, s4)) = some p11 → GW E X (QX E X 0 0 (some (.int rr)) z J I) 6 17 [(0, .ref o0), (1, .int x1), (2, .int s2), (3, .int s3), (4, .int s4)] [] z J I 0 0 := by
    intro k
    induction k with
    | zero => intro s2 s3 s4 h; cases h
    | succ k ihl5 =>
      intro s2 s3 s4 h
      obtain ⟨wl5, h, hwl5⟩ := lpN_s h
      unfold b_X4_picksOfSize_17 at h
      try dsimp only at h
      refine g_iload hX (pc := 17) dX4_picksOfSize_17 4 rfl ?_
      refine g_bipush hX (pc := 19) (v := 16) dX4_picksOfSize_19 (by decide) ?_
      refine g_icmp_ge hX (pc := 21) dX4_picksOfSize_21 (tgt := 67) (by decide) (fun c6 => ?_) (fun c6 => ?_)
      · replace h := ifP c6 h
        refine g_iload_n hX (pc := 24) (i := 2) dX4_picksOfSize_24 rfl 2 rfl ?_
        refine g_if_eq hX (pc := 25) dX4_picksOfSize_25 (tgt := 67) (by decide) (fun c7 => ?_) (fun c7 => ?_)
        · replace h := ifP c7 h
          obtain rfl := Option.some.inj h
          exact Kl5 ((s2, s3, s4)) hwl5
        · replace h := ifN c7 h
          refine g_aload_n hX (pc := 28) (i := 0) dX4_picksOfSize_28 rfl 0 rfl ?_
          refine gf4_3 hX (pc := 29) ho0 fl_X4_27 dX4_picksOfSize_29 ?_
          refine g_iload_n hX (pc := 32) (i := 2) dX4_picksOfSize_32 rfl 2 rfl ?_
          refine g_iload_n hX (pc := 33) (i := 1) dX4_picksOfSize_33 rfl 1 rfl ?_
          obtain ⟨r8, e_r8, h⟩ := bnd h
          refine g_callVi hX (pc := 34) (d := d + 2) hr0 [.int s2, .int x1] (c := 3) (ct_X3_gather (d := d + 0) (s4_3 ho0).1 e_r8) (s4_3 ho0).1.1.1 (s4_3 ho0).1.1.2 (by decide) rfl co_X3_gather ml_X4_271 im_X3_gather sl_X3_gather ini_X3 nm_X3_gather (by decide) ⟨Nat.le_refl _, Nat.le_refl _⟩ (Nat.le_refl _) (Nat.le_of_ble_eq_true rfl) rfl dX4_picksOfSize_34 ?_
          refine g_istore hX (pc := 37) (ls' := [(0, .ref o0), (1, .int x1), (2, .int s2), (3, .int s3), (4, .int s4), (5, .int r8)]) [1, 2, 3, 4, 5, 0] dX4_picksOfSize_37 (by decide) rfl ?_
          refine g_iload_n hX (pc := 39) (i := 3) dX4_picksOfSize_39 rfl 3 rfl ?_
          refine g_aload_n hX (pc := 40) (i := 0) dX4_picksOfSize_40 rfl 0 rfl ?_
          refine gf4_3 hX (pc := 41) ho0 fl_X4_27 dX4_picksOfSize_41 ?_
          refine g_iload hX (pc := 44) dX4_picksOfSize_44 5 rfl ?_
          obtain ⟨r9, e_r9, h⟩ := bnd h
          refine g_callVi hX (pc := 46) (d := d + 2) hr0 [.int r8] (c := 3) (ct_X3_itemsOfAll (d := d + 1) (s4_3 ho0).1 e_r9) (s4_3 ho0).1.1.1 (s4_3 ho0).1.1.2 (by decide) rfl co_X3_itemsOfAll ml_X4_274 im_X3_itemsOfAll sl_X3_itemsOfAll ini_X3 nm_X3_itemsOfAll (by decide) ⟨Nat.le_refl _, Nat.le_refl _⟩ (Nat.le_refl _) (Nat.le_of_ble_eq_true rfl) rfl dX4_picksOfSize_46 ?_
          obtain ⟨r10, e_r10, h⟩ := bnd h
          refine g_callSi hX (pc := 49) (d := d + 2) hr0 [.int r9] (ct_J6_bitCount_0f7a4 (d := d + 2)  e_r10) co_J6_bitCount_0f7a4 ml_X4_142 sta_J6_bitCount_0f7a4 ini_J6 nm_J6_bitCount_0f7a4 (by decide) ⟨Nat.le_refl _, Nat.le_refl _⟩ (Nat.le_refl _) (Nat.le_of_ble_eq_true rfl) rfl dX4_picksOfSize_49 ?_
          refine g_iadd hX (pc := 52) dX4_picksOfSize_52 ?_
          refine g_istore_n hX (pc := 53) (i := 3) (ls' := [(0, .ref o0), (1, .int x1), (2, .int s2), (3, .int (s3 + r10)), (4, .int s4), (5, .int r8)]) [1, 2, 3, 0, 4, 5] dX4_picksOfSize_53 rfl (by decide) rfl ?_
          refine g_iload_n hX (pc := 54) (i := 2) dX4_picksOfSize_54 rfl 2 rfl ?_
          refine g_iload hX (pc := 55) dX4_picksOfSize_55 5 rfl ?_
          refine g_iconst hX (pc := 57) (v := (-1)) dX4_picksOfSize_57 (by decide) ?_
          refine g_ixor hX (pc := 58) dX4_picksOfSize_58 ?_
          refine g_iand hX (pc := 59) dX4_picksOfSize_59 ?_
          refine g_istore_n hX (pc := 60) (i := 2) (ls' := [(0, .ref o0), (1, .int x1), (2, .int (s2 &&& (r8 ^^^ ((-1))))), (3, .int (s3 + r10)), (4, .int s4), (5, .int r8)]) [1, 2, 0, 3, 4, 5] dX4_picksOfSize_60 rfl (by decide) rfl ?_
          refine g_iinc hX (pc := 61) (i := 4) (v := s4 + 1) (ls' := [(0, .ref o0), (1, .int x1), (2, .int (s2 &&& (r8 ^^^ ((-1))))), (3, .int (s3 + r10)), (4, .int (s4 + 1)), (5, .int r8)]) 4 [1, 2, 3, 4, 0, 5] dX4_picksOfSize_61 rfl (by rfl) (by decide) rfl ?_
          refine g_goto hX (pc := 64) (tgt := 17) dX4_picksOfSize_64 (by decide) ?_
          refine g_sub (ls' := [(0, .ref o0), (1, .int x1), (2, .int (s2 &&& (r8 ^^^ ((-1))))), (3, .int (s3 + r10)), (4, .int (s4 + 1))]) [0, 1, 2, 3, 4] rfl ?_
          obtain rfl := Option.some.inj h
          exact ihl5 (s2 &&& (r8 ^^^ ((-1)))) (s3 + r10) (s4 + 1) hwl5
      · replace h := ifN c6 h
        obtain rfl := Option.some.inj h
        exact Kl5 ((s2, s3, s4)) hwl5
  exact Ll5 kl5 r1 0 0 hkl5
noncomputable def b_X0_takeFromBelt_2 (o0 : Nat) (o1 : Nat) (x2 : Int32) (s : Int32 × MI) : Option ((Int32 × MI) ⊕ (Int32 × MI)) :=
  if s.1 < x2 then
    if (s.2 o0 9) < (s.2 o0 10) then
      (rd 864 (s.2 (o0 + 8)) (s.2 o0 9)).bind fun v6 =>
      (wf s.2 o0 9 ((s.2 o0 9) + 1)).bind fun I7 =>
      (f_X4_orderOfUnit v6).bind fun r8 =>
      (f_X0_canCome o0 o1 r8 I7).bind fun r9 =>
      (if r9 = 0 then
        (f_X0_putAside o0 v6 I7).bind fun r12 =>
        some r12
      else
        (f_X0_come o0 o1 v6 I7).bind fun r13 =>
        if r13.1 = 0 then
          some r13.2
        else
          (f_X0_settleAside o0 o1 r13.2).bind fun r15 =>
          some r15).bind fun (p16 : MI) =>
      some (.inl ((s.1 + 1, p16)))
    else
      some (.inr ((s.1, s.2)))
  else
    some (.inr ((s.1, s.2)))
noncomputable def f_X0_takeFromBelt (o0 : Nat) (o1 : Nat) (x2 : Int32) (I : MI) : Option (Int32 × MI) :=
  (lp (b_X0_takeFromBelt_2 o0 o1 x2) ((0, I))).bind fun p17 =>
  some ((p17.1, p17.2))
theorem nm_X0_takeFromBelt : yX0_takeFromBelt.cls ≠ "java/lang/invoke/MethodHandle" ∧ yX0_takeFromBelt.cls ≠ "java/lang/invoke/VarHandle" ∧ (parseMethodDescriptor yX0_takeFromBelt.desc).map (fun d => d.parameters.length) = some 2 := by decide +kernel
set_option maxRecDepth 100000 in
set_option maxHeartbeats 4000000 in
theorem ct_X0_takeFromBelt {E : Ev} {d : Nat} {z : Sh} {J : MJ} {I : MI} {o0 : Nat} {o1 : Nat} {x2 : Int32} {rr : Int32} {Iz : MI} (ho0 : oX0 z o0) (ho1 : oX3 z o1) (h : f_X0_takeFromBelt o0 o1 x2 I = some ((rr, Iz))) : Ct E (d + 5) yX0_takeFromBelt cX0_takeFromBelt 5 (some .int) 0 0 [.ref o0, .ref o1, .int x2] z J I (some (.int rr)) z J Iz := by
  unfold f_X0_takeFromBelt at h
  refine Ct.of (own := RX0) (ls := [(0, .ref o0), (1, .ref o1), (2, .int x2)]) (by decide) rfl (Nat.le_of_ble_eq_true rfl) rfl ?_
  intro X hr0 hnm hX
  refine g_iconst hX (pc := 0) (v := 0) dX0_takeFromBelt_0 (by decide) ?_
  refine g_istore_n hX (pc := 1) (i := 3) (ls' := [(0, .ref o0), (1, .ref o1), (2, .int x2), (3, .int 0)]) [1, 2, 3, 0] dX0_takeFromBelt_1 rfl (by decide) rfl ?_
  obtain ⟨p17, hpl3, h⟩ := bnd h
  have Kl3 : ∀ ql3 : Int32 × MI, ql3 = p17 → GW E X (QX E X 0 0 (some (.int rr)) z J Iz) 5 82 [(0, .ref o0), (1, .ref o1), (2, .int x2), (3, .int ql3.1)] [] z J ql3.2 0 0 := by
    intro ql3 hql3
    subst hql3
    refine g_iload_n hX (pc := 82) (i := 3) dX0_takeFromBelt_82 rfl 3 rfl ?_
    replace h := Option.some.inj h
    obtain ⟨rfl, rfl⟩ := Prod.mk.inj h
    exact g_ireturn hX (Nat.le_refl _) (Nat.le_refl _) dX0_takeFromBelt_83
  obtain ⟨kl3, hkl3⟩ := lp_ex hpl3
  clear hpl3 h
  have Ll3 : ∀ k : Nat, ∀ (s1 : Int32) (I2 : MI), lpN k (b_X0_takeFromBelt_2 o0 o1 x2) ((s1, I2)) = some p17 → GW E X (QX E X 0 0 (some (.int rr)) z J Iz) 5 2 [(0, .ref o0), (1, .ref o1), (2, .int x2), (3, .int s1)] [] z J I2 0 0 := by
    intro k
    induction k with
    | zero => intro s1 I2 h; cases h
    | succ k ihl3 =>
      intro s1 I2 h
      obtain ⟨wl3, h, hwl3⟩ := lpN_s h
      unfold b_X0_takeFromBelt_2 at h
      try dsimp only at h
      refine g_iload_n hX (pc := 2) (i := 3) dX0_takeFromBelt_2 rfl 3 rfl ?_
      refine g_iload_n hX (pc := 3) (i := 2) dX0_takeFromBelt_3 rfl 2 rfl ?_
      refine g_icmp_ge hX (pc := 4) dX0_takeFromBelt_4 (tgt := 82) (by decide) (fun c4 => ?_) (fun c4 => ?_)
      · replace h := ifP c4 h
        refine g_aload_n hX (pc := 7) (i := 0) dX0_takeFromBelt_7 rfl 0 rfl ?_
        refine gf0_9 hX (pc := 8) ho0 fl_X0_40 dX0_takeFromBelt_8 ?_
        refine g_aload_n hX (pc := 11) (i := 0) dX0_takeFromBelt_11 rfl 0 rfl ?_
        refine gf0_10 hX (pc := 12) ho0 fl_X0_43 dX0_takeFromBelt_12 ?_
        refine g_icmp_ge hX (pc := 15) dX0_takeFromBelt_15 (tgt := 82) (by decide) (fun c5 => ?_) (fun c5 => ?_)
        · replace h := ifP c5 h
          refine g_aload_n hX (pc := 18) (i := 0) dX0_takeFromBelt_18 rfl 0 rfl ?_
          refine gf0_8 hX (pc := 19) ho0 fl_X0_37 dX0_takeFromBelt_19 ?_
          refine g_aload_n hX (pc := 22) (i := 0) dX0_takeFromBelt_22 rfl 0 rfl ?_
          refine gf0_9 hX (pc := 23) ho0 fl_X0_40 dX0_takeFromBelt_23 ?_
          obtain ⟨v6, e_v6, h⟩ := bnd h
          refine g_ialoadE hX (pc := 26) (s0_8 ho0).1 (s0_8 ho0).2.1 (s0_8 ho0).2.2.1 e_v6 dX0_takeFromBelt_26 ?_
          refine g_istore hX (pc := 27) (ls' := [(0, .ref o0), (1, .ref o1), (2, .int x2), (3, .int s1), (4, .int v6)]) [1, 2, 3, 4, 0] dX0_takeFromBelt_27 (by decide) rfl ?_
          refine g_aload_n hX (pc := 29) (i := 0) dX0_takeFromBelt_29 rfl 0 rfl ?_
          refine g_dup hX (pc := 30) dX0_takeFromBelt_30 rfl ?_
          refine gf0_9 hX (pc := 31) ho0 fl_X0_40 dX0_takeFromBelt_31 ?_
          refine g_iconst hX (pc := 34) (v := 1) dX0_takeFromBelt_34 (by decide) ?_
          refine g_iadd hX (pc := 35) dX0_takeFromBelt_35 ?_
          obtain ⟨I7, e_I7, h⟩ := bnd h
          refine pf0_9 hX (pc := 36) ho0 fl_X0_40 dX0_takeFromBelt_36 e_I7 ?_
          refine g_iinc hX (pc := 39) (i := 3) (v := s1 + 1) (ls' := [(0, .ref o0), (1, .ref o1), (2, .int x2), (3, .int (s1 + 1)), (4, .int v6)]) 3 [1, 2, 3, 0, 4] dX0_takeFromBelt_39 rfl (by rfl) (by decide) rfl ?_
          refine g_aload_n hX (pc := 42) (i := 0) dX0_takeFromBelt_42 rfl 0 rfl ?_
          refine g_aload_n hX (pc := 43) (i := 1) dX0_takeFromBelt_43 rfl 1 rfl ?_
          refine g_iload hX (pc := 44) dX0_takeFromBelt_44 4 rfl ?_
          obtain ⟨r8, e_r8, h⟩ := bnd h
          refine g_callSNi hX (pc := 46) (d := d + 4) hr0 [.int v6] (host := RX4) (ct_X4_orderOfUnit (d := d + 4)  e_r8) co_X4_orderOfUnit (by decide) sta_X4_orderOfUnit ini_X4 nm_X4_orderOfUnit (by decide) ⟨Nat.le_refl _, Nat.le_refl _⟩ (Nat.le_refl _) (Nat.le_of_ble_eq_true rfl) rfl dX0_takeFromBelt_46 ?_
          obtain ⟨r9, e_r9, h⟩ := bnd h
          refine g_callVi hX (pc := 49) (d := d + 4) hr0 [.ref o1, .int r8] (c := 0) (ct_X0_canCome (d := d + 3) ho0 ho1 e_r9) ho0.1.1 ho0.1.2 (by decide) rfl co_X0_canCome ml_X0_122 im_X0_canCome sl_X0_canCome ini_X0 nm_X0_canCome (by decide) ⟨Nat.le_refl _, Nat.le_refl _⟩ (Nat.le_refl _) (Nat.le_of_ble_eq_true rfl) rfl dX0_takeFromBelt_49 ?_
          obtain ⟨p16, hpj11, h⟩ := bnd h
          have Kj11 : ∀ qj11 : MI, qj11 = p16 → GW E X (QX E X 0 0 (some (.int rr)) z J Iz) 5 79 [(0, .ref o0), (1, .ref o1), (2, .int x2), (3, .int (s1 + 1)), (4, .int v6)] [] z J qj11 0 0 := by
            intro qj11 hqj11
            subst hqj11
            refine g_goto hX (pc := 79) (tgt := 2) dX0_takeFromBelt_79 (by decide) ?_
            refine g_sub (ls' := [(0, .ref o0), (1, .ref o1), (2, .int x2), (3, .int (s1 + 1))]) [0, 1, 2, 3] rfl ?_
            obtain rfl := Option.some.inj h
            exact ihl3 (s1 + 1) qj11 hwl3
          replace h := hpj11
          clear hpj11
          refine g_if_ne hX (pc := 52) dX0_takeFromBelt_52 (tgt := 64) (by decide) (fun c10 => ?_) (fun c10 => ?_)
          · replace h := ifP c10 h
            refine g_aload_n hX (pc := 55) (i := 0) dX0_takeFromBelt_55 rfl 0 rfl ?_
            refine g_iload hX (pc := 56) dX0_takeFromBelt_56 4 rfl ?_
            obtain ⟨r12, e_r12, h⟩ := bnd h
            refine g_callVv hX (pc := 58) (d := d + 4) hr0 [.int v6] (c := 0) (ct_X0_putAside (d := d + 4) ho0 e_r12) ho0.1.1 ho0.1.2 (by decide) rfl co_X0_putAside ml_X0_126 im_X0_putAside sl_X0_putAside ini_X0 nm_X0_putAside (by decide) ⟨Nat.le_refl _, Nat.le_refl _⟩ (Nat.le_refl _) (Nat.le_of_ble_eq_true rfl) rfl dX0_takeFromBelt_58 ?_
            refine g_goto hX (pc := 61) (tgt := 79) dX0_takeFromBelt_61 (by decide) ?_
            exact Kj11 r12 (Option.some.inj h)
          · replace h := ifN c10 h
            refine g_aload_n hX (pc := 64) (i := 0) dX0_takeFromBelt_64 rfl 0 rfl ?_
            refine g_aload_n hX (pc := 65) (i := 1) dX0_takeFromBelt_65 rfl 1 rfl ?_
            refine g_iload hX (pc := 66) dX0_takeFromBelt_66 4 rfl ?_
            obtain ⟨r13, e_r13, h⟩ := bnd h
            refine g_callVi hX (pc := 68) (d := d + 4) hr0 [.ref o1, .int v6] (c := 0) (ct_X0_come (d := d + 2) ho0 ho1 e_r13) ho0.1.1 ho0.1.2 (by decide) rfl co_X0_come ml_X0_130 im_X0_come sl_X0_come ini_X0 nm_X0_come (by decide) ⟨Nat.le_refl _, Nat.le_refl _⟩ (Nat.le_refl _) (Nat.le_of_ble_eq_true rfl) rfl dX0_takeFromBelt_68 ?_
            refine g_if_eq hX (pc := 71) dX0_takeFromBelt_71 (tgt := 79) (by decide) (fun c14 => ?_) (fun c14 => ?_)
            · replace h := ifP c14 h
              exact Kj11 r13.2 (Option.some.inj h)
            · replace h := ifN c14 h
              refine g_aload_n hX (pc := 74) (i := 0) dX0_takeFromBelt_74 rfl 0 rfl ?_
              refine g_aload_n hX (pc := 75) (i := 1) dX0_takeFromBelt_75 rfl 1 rfl ?_
              obtain ⟨r15, e_r15, h⟩ := bnd h
              refine g_callVv hX (pc := 76) (d := d + 4) hr0 [.ref o1] (c := 0) (ct_X0_settleAside (d := d + 0) ho0 ho1 e_r15) ho0.1.1 ho0.1.2 (by decide) rfl co_X0_settleAside ml_X0_133 im_X0_settleAside sl_X0_settleAside ini_X0 nm_X0_settleAside (by decide) ⟨Nat.le_refl _, Nat.le_refl _⟩ (Nat.le_refl _) (Nat.le_of_ble_eq_true rfl) rfl dX0_takeFromBelt_76 ?_
              exact Kj11 r15 (Option.some.inj h)
        · replace h := ifN c5 h
          obtain rfl := Option.some.inj h
          exact Kl3 ((s1, I2)) hwl3
      · replace h := ifN c4 h
        obtain rfl := Option.some.inj h
        exact Kl3 ((s1, I2)) hwl3
  exact Ll3 kl3 0 I hkl3
noncomputable def f_X0_putBy (o0 : Nat) (o1 : Nat) (x2 : Int32) (I : MI) : Option (Int32 × MI) :=
  (rd 16 (I (o0 + 3)) x2).bind fun v1 =>
  (wr 16 I (o0 + 2) x2 3).bind fun I2 =>
  (f_X0_leaveHole o0 x2 I2).bind fun r3 =>
  (f_X0_settleAside o0 o1 r3.2).bind fun r4 =>
  some ((v1, r4))
theorem nm_X0_putBy : yX0_putBy.cls ≠ "java/lang/invoke/MethodHandle" ∧ yX0_putBy.cls ≠ "java/lang/invoke/VarHandle" ∧ (parseMethodDescriptor yX0_putBy.desc).map (fun d => d.parameters.length) = some 2 := by decide +kernel
set_option maxRecDepth 100000 in
set_option maxHeartbeats 4000000 in
theorem ct_X0_putBy {E : Ev} {d : Nat} {z : Sh} {J : MJ} {I : MI} {o0 : Nat} {o1 : Nat} {x2 : Int32} {rr : Int32} {Iz : MI} (ho0 : oX0 z o0) (ho1 : oX3 z o1) (h : f_X0_putBy o0 o1 x2 I = some ((rr, Iz))) : Ct E (d + 5) yX0_putBy cX0_putBy 4 (some .int) 0 0 [.ref o0, .ref o1, .int x2] z J I (some (.int rr)) z J Iz := by
  unfold f_X0_putBy at h
  refine Ct.of (own := RX0) (ls := [(0, .ref o0), (1, .ref o1), (2, .int x2)]) (by decide) rfl (Nat.le_of_ble_eq_true rfl) rfl ?_
  intro X hr0 hnm hX
  refine g_aload_n hX (pc := 0) (i := 0) dX0_putBy_0 rfl 0 rfl ?_
  refine gf0_2 hX (pc := 1) ho0 fl_X0_18 dX0_putBy_1 ?_
  refine g_iload_n hX (pc := 4) (i := 2) dX0_putBy_4 rfl 2 rfl ?_
  obtain ⟨v1, e_v1, h⟩ := bnd h
  refine g_ialoadE hX (pc := 5) (s0_2 ho0).1 (s0_2 ho0).2.1 (s0_2 ho0).2.2.1 e_v1 dX0_putBy_5 ?_
  refine g_istore_n hX (pc := 6) (i := 3) (ls' := [(0, .ref o0), (1, .ref o1), (2, .int x2), (3, .int v1)]) [1, 2, 3, 0] dX0_putBy_6 rfl (by decide) rfl ?_
  refine g_aload_n hX (pc := 7) (i := 0) dX0_putBy_7 rfl 0 rfl ?_
  refine gf0_1 hX (pc := 8) ho0 fl_X0_15 dX0_putBy_8 ?_
  refine g_iload_n hX (pc := 11) (i := 2) dX0_putBy_11 rfl 2 rfl ?_
  refine g_iconst hX (pc := 12) (v := 3) dX0_putBy_12 (by decide) ?_
  obtain ⟨I2, e_I2, h⟩ := bnd h
  refine g_iastoreE hX (pc := 13) (s0_1 ho0).1 (s0_1 ho0).2.1 (s0_1 ho0).2.2.1 e_I2 dX0_putBy_13 ?_
  refine g_aload_n hX (pc := 14) (i := 0) dX0_putBy_14 rfl 0 rfl ?_
  refine g_iload_n hX (pc := 15) (i := 2) dX0_putBy_15 rfl 2 rfl ?_
  obtain ⟨r3, e_r3, h⟩ := bnd h
  refine g_callVi hX (pc := 16) (d := d + 4) hr0 [.int x2] (c := 0) (ct_X0_leaveHole (d := d + 4) ho0 e_r3) ho0.1.1 ho0.1.2 (by decide) rfl co_X0_leaveHole ml_X0_142 im_X0_leaveHole sl_X0_leaveHole ini_X0 nm_X0_leaveHole (by decide) ⟨Nat.le_refl _, Nat.le_refl _⟩ (Nat.le_refl _) (Nat.le_of_ble_eq_true rfl) rfl dX0_putBy_16 ?_
  refine g_pop hX (pc := 19) dX0_putBy_19 rfl ?_
  refine g_aload_n hX (pc := 20) (i := 0) dX0_putBy_20 rfl 0 rfl ?_
  refine g_aload_n hX (pc := 21) (i := 1) dX0_putBy_21 rfl 1 rfl ?_
  obtain ⟨r4, e_r4, h⟩ := bnd h
  refine g_callVv hX (pc := 22) (d := d + 4) hr0 [.ref o1] (c := 0) (ct_X0_settleAside (d := d + 0) ho0 ho1 e_r4) ho0.1.1 ho0.1.2 (by decide) rfl co_X0_settleAside ml_X0_133 im_X0_settleAside sl_X0_settleAside ini_X0 nm_X0_settleAside (by decide) ⟨Nat.le_refl _, Nat.le_refl _⟩ (Nat.le_refl _) (Nat.le_of_ble_eq_true rfl) rfl dX0_putBy_22 ?_
  refine g_iload_n hX (pc := 25) (i := 3) dX0_putBy_25 rfl 3 rfl ?_
  replace h := Option.some.inj h
  obtain ⟨rfl, rfl⟩ := Prod.mk.inj h
  exact g_ireturn hX (Nat.le_refl _) (Nat.le_refl _) dX0_putBy_26
noncomputable def b_X1_make_32 (o0 : Nat) (o1 : Nat) (o2 : Nat) (s : Int32 × MI) : Option ((Int32 × MI) ⊕ (Int32 × MI)) :=
  if s.1 < (s.2 o1 6) then
    (f_X1_needOf o0 o1 s.1 s.2).bind fun r10 =>
    (rd 10 (s.2 (o2 + 1)) s.1).bind fun v11 =>
    (if 0 < (imin r10 v11) then
      (f_X1_addPick o0 o1 s.1 (imin r10 v11) s.2).bind fun r14 =>
      (f_X1_shareOut o0 o1 s.1 (imin r10 v11) r14).bind fun r15 =>
      some r15
    else
      some s.2).bind fun (p16 : MI) =>
    some (.inl ((s.1 + 1, p16)))
  else
    some (.inr ((s.1, s.2)))
noncomputable def b_X1_make_86 (o0 : Nat) (o1 : Nat) (s : Int32 × MI) : Option ((Int32 × MI) ⊕ (Int32 × MI)) :=
  if s.1 < (s.2 o1 10) then
    (f_X1_lookAtShare o0 o1 s.1 s.2).bind fun r22 =>
    some (.inl ((s.1 + 1, r22)))
  else
    some (.inr ((s.1, s.2)))
noncomputable def f_X1_make (o0 : Nat) (o1 : Nat) (o2 : Nat) (I : MI) : Option (MI) :=
  (f_X0_waiting o2 o1 I).bind fun r1 =>
  (f_X3_gather o1 r1 (I o1 3) I).bind fun r2 =>
  (wf I o0 0 r2).bind fun I3 =>
  (wf I3 o0 1 0).bind fun I4 =>
  (f_J7_fill_53178 (o0 + 3) 160 0 I4).bind fun r5 =>
  (lp (b_X1_make_32 o0 o1 o2) ((0, r5))).bind fun p17 =>
  (lp (b_X1_make_86 o0 o1) ((0, p17.2))).bind fun p23 =>
  some p23.2
theorem nm_X1_make : yX1_make.cls ≠ "java/lang/invoke/MethodHandle" ∧ yX1_make.cls ≠ "java/lang/invoke/VarHandle" ∧ (parseMethodDescriptor yX1_make.desc).map (fun d => d.parameters.length) = some 2 := by decide +kernel
set_option maxRecDepth 100000 in
set_option maxHeartbeats 4000000 in
theorem ct_X1_make {E : Ev} {d : Nat} {z : Sh} {J : MJ} {I : MI} {o0 : Nat} {o1 : Nat} {o2 : Nat} {Iz : MI} (ho0 : oX1 z o0) (ho1 : oX3 z o1) (ho2 : oX0 z o2) (h : f_X1_make o0 o1 o2 I = some Iz) : Ct E (d + 3) yX1_make cX1_make 5 none 0 0 [.ref o0, .ref o1, .ref o2] z J I none z J Iz := by
  unfold f_X1_make at h
  refine Ct.of (own := RX1) (ls := [(0, .ref o0), (1, .ref o1), (2, .ref o2)]) (by decide) rfl (Nat.le_of_ble_eq_true rfl) rfl ?_
  intro X hr0 hnm hX
  refine g_aload_n hX (pc := 0) (i := 0) dX1_make_0 rfl 0 rfl ?_
  refine g_aload_n hX (pc := 1) (i := 1) dX1_make_1 rfl 1 rfl ?_
  refine g_aload_n hX (pc := 2) (i := 2) dX1_make_2 rfl 2 rfl ?_
  refine g_aload_n hX (pc := 3) (i := 1) dX1_make_3 rfl 1 rfl ?_
  obtain ⟨r1, e_r1, h⟩ := bnd h
  refine g_callVi hX (pc := 4) (d := d + 2) hr0 [.ref o1] (c := 0) (ct_X0_waiting (d := d + 2) ho2 ho1 e_r1) ho2.1.1 ho2.1.2 (by decide) rfl co_X0_waiting ml_X1_44 im_X0_waiting sl_X0_waiting ini_X0 nm_X0_waiting (by decide) ⟨Nat.le_refl _, Nat.le_refl _⟩ (Nat.le_refl _) (Nat.le_of_ble_eq_true rfl) rfl dX1_make_4 ?_
  refine g_aload_n hX (pc := 7) (i := 1) dX1_make_7 rfl 1 rfl ?_
  refine gf3_3 hX (pc := 8) ho1 fl_X1_50 dX1_make_8 ?_
  obtain ⟨r2, e_r2, h⟩ := bnd h
  refine g_callVi hX (pc := 11) (d := d + 2) hr0 [.int r1, .int (I o1 3)] (c := 3) (ct_X3_gather (d := d + 0) ho1 e_r2) ho1.1.1 ho1.1.2 (by decide) rfl co_X3_gather ml_X1_55 im_X3_gather sl_X3_gather ini_X3 nm_X3_gather (by decide) ⟨Nat.le_refl _, Nat.le_refl _⟩ (Nat.le_refl _) (Nat.le_of_ble_eq_true rfl) rfl dX1_make_11 ?_
  obtain ⟨I3, e_I3, h⟩ := bnd h
  refine pf1_0 hX (pc := 14) ho0 fl_X1_9 dX1_make_14 e_I3 ?_
  refine g_aload_n hX (pc := 17) (i := 0) dX1_make_17 rfl 0 rfl ?_
  refine g_iconst hX (pc := 18) (v := 0) dX1_make_18 (by decide) ?_
  obtain ⟨I4, e_I4, h⟩ := bnd h
  refine pf1_1 hX (pc := 19) ho0 fl_X1_15 dX1_make_19 e_I4 ?_
  refine g_aload_n hX (pc := 22) (i := 0) dX1_make_22 rfl 0 rfl ?_
  refine gf1_4 hX (pc := 23) ho0 fl_X1_25 dX1_make_23 ?_
  refine g_iconst hX (pc := 26) (v := 0) dX1_make_26 (by decide) ?_
  obtain ⟨r5, e_r5, h⟩ := bnd h
  refine g_callSv hX (pc := 27) (d := d + 2) hr0 [.ref (o0 + 3), .int 0] (ct_J7_fill_53178 (d := d + 2) ⟨(s1_4 ho0).1, (s1_4 ho0).2.1, (s1_4 ho0).2.2.1⟩ e_r5) co_J7_fill_53178 ml_X1_59 sta_J7_fill_53178 ini_J7 nm_J7_fill_53178 (by decide) ⟨Nat.le_refl _, Nat.le_refl _⟩ (Nat.le_refl _) (Nat.le_of_ble_eq_true rfl) rfl dX1_make_27 ?_
  refine g_iconst hX (pc := 30) (v := 0) dX1_make_30 (by decide) ?_
  refine g_istore_n hX (pc := 31) (i := 3) (ls' := [(0, .ref o0), (1, .ref o1), (2, .ref o2), (3, .int 0)]) [1, 2, 3, 0] dX1_make_31 rfl (by decide) rfl ?_
  obtain ⟨p17, hpl8, h⟩ := bnd h
  have Kl8 : ∀ ql8 : Int32 × MI, ql8 = p17 → GW E X (QX E X 0 0 none z J Iz) 5 84 [(0, .ref o0), (1, .ref o1), (2, .ref o2), (3, .int ql8.1)] [] z J ql8.2 0 0 := by
    intro ql8 hql8
    subst hql8
    refine g_iconst hX (pc := 84) (v := 0) dX1_make_84 (by decide) ?_
    refine g_istore_n hX (pc := 85) (i := 3) (ls' := [(0, .ref o0), (1, .ref o1), (2, .ref o2), (3, .int 0)]) [1, 2, 3, 0] dX1_make_85 rfl (by decide) rfl ?_
    obtain ⟨p23, hpl20, h⟩ := bnd h
    have Kl20 : ∀ ql20 : Int32 × MI, ql20 = p23 → GW E X (QX E X 0 0 none z J Iz) 5 106 [(0, .ref o0), (1, .ref o1), (2, .ref o2), (3, .int ql20.1)] [] z J ql20.2 0 0 := by
      intro ql20 hql20
      subst hql20
      obtain rfl := Option.some.inj h
      exact g_return hX (Nat.le_refl _) (Nat.le_refl _) dX1_make_106
    obtain ⟨kl20, hkl20⟩ := lp_ex hpl20
    clear hpl20 h
    have Ll20 : ∀ k : Nat, ∀ (s18 : Int32) (I19 : MI), lpN k (b_X1_make_86 o0 o1) ((s18, I19)) = some p23 → GW E X (QX E X 0 0 none z J Iz) 5 86 [(0, .ref o0), (1, .ref o1), (2, .ref o2), (3, .int s18)] [] z J I19 0 0 := by
      intro k
      induction k with
      | zero => intro s18 I19 h; cases h
      | succ k ihl20 =>
        intro s18 I19 h
        obtain ⟨wl20, h, hwl20⟩ := lpN_s h
        unfold b_X1_make_86 at h
        try dsimp only at h
        refine g_iload_n hX (pc := 86) (i := 3) dX1_make_86 rfl 3 rfl ?_
        refine g_aload_n hX (pc := 87) (i := 1) dX1_make_87 rfl 1 rfl ?_
        refine gf3_10 hX (pc := 88) ho1 fl_X1_87 dX1_make_88 ?_
        refine g_icmp_ge hX (pc := 91) dX1_make_91 (tgt := 106) (by decide) (fun c21 => ?_) (fun c21 => ?_)
        · replace h := ifP c21 h
          refine g_aload_n hX (pc := 94) (i := 0) dX1_make_94 rfl 0 rfl ?_
          refine g_aload_n hX (pc := 95) (i := 1) dX1_make_95 rfl 1 rfl ?_
          refine g_iload_n hX (pc := 96) (i := 3) dX1_make_96 rfl 3 rfl ?_
          obtain ⟨r22, e_r22, h⟩ := bnd h
          refine g_callVv hX (pc := 97) (d := d + 2) hr0 [.ref o1, .int s18] (c := 1) (ct_X1_lookAtShare (d := d + 0) ho0 ho1 e_r22) ho0.1.1 ho0.1.2 (by decide) rfl co_X1_lookAtShare ml_X1_88 im_X1_lookAtShare sl_X1_lookAtShare ini_X1 nm_X1_lookAtShare (by decide) ⟨Nat.le_refl _, Nat.le_refl _⟩ (Nat.le_refl _) (Nat.le_of_ble_eq_true rfl) rfl dX1_make_97 ?_
          refine g_iinc hX (pc := 100) (i := 3) (v := s18 + 1) (ls' := [(0, .ref o0), (1, .ref o1), (2, .ref o2), (3, .int (s18 + 1))]) 3 [1, 2, 3, 0] dX1_make_100 rfl (by rfl) (by decide) rfl ?_
          refine g_goto hX (pc := 103) (tgt := 86) dX1_make_103 (by decide) ?_
          obtain rfl := Option.some.inj h
          exact ihl20 (s18 + 1) r22 hwl20
        · replace h := ifN c21 h
          obtain rfl := Option.some.inj h
          exact Kl20 ((s18, I19)) hwl20
    exact Ll20 kl20 0 ql8.2 hkl20
  obtain ⟨kl8, hkl8⟩ := lp_ex hpl8
  clear hpl8 h
  have Ll8 : ∀ k : Nat, ∀ (s6 : Int32) (I7 : MI), lpN k (b_X1_make_32 o0 o1 o2) ((s6, I7)) = some p17 → GW E X (QX E X 0 0 none z J Iz) 5 32 [(0, .ref o0), (1, .ref o1), (2, .ref o2), (3, .int s6)] [] z J I7 0 0 := by
    intro k
    induction k with
    | zero => intro s6 I7 h; cases h
    | succ k ihl8 =>
      intro s6 I7 h
      obtain ⟨wl8, h, hwl8⟩ := lpN_s h
      unfold b_X1_make_32 at h
      try dsimp only at h
      refine g_iload_n hX (pc := 32) (i := 3) dX1_make_32 rfl 3 rfl ?_
      refine g_aload_n hX (pc := 33) (i := 1) dX1_make_33 rfl 1 rfl ?_
      refine gf3_6 hX (pc := 34) ho1 fl_X1_65 dX1_make_34 ?_
      refine g_icmp_ge hX (pc := 37) dX1_make_37 (tgt := 84) (by decide) (fun c9 => ?_) (fun c9 => ?_)
      · replace h := ifP c9 h
        refine g_aload_n hX (pc := 40) (i := 0) dX1_make_40 rfl 0 rfl ?_
        refine g_aload_n hX (pc := 41) (i := 1) dX1_make_41 rfl 1 rfl ?_
        refine g_iload_n hX (pc := 42) (i := 3) dX1_make_42 rfl 3 rfl ?_
        obtain ⟨r10, e_r10, h⟩ := bnd h
        refine g_callVi hX (pc := 43) (d := d + 2) hr0 [.ref o1, .int s6] (c := 1) (ct_X1_needOf (d := d + 1) ho0 ho1 e_r10) ho0.1.1 ho0.1.2 (by decide) rfl co_X1_needOf ml_X1_68 im_X1_needOf sl_X1_needOf ini_X1 nm_X1_needOf (by decide) ⟨Nat.le_refl _, Nat.le_refl _⟩ (Nat.le_refl _) (Nat.le_of_ble_eq_true rfl) rfl dX1_make_43 ?_
        refine g_aload_n hX (pc := 46) (i := 2) dX1_make_46 rfl 2 rfl ?_
        refine gf0_0 hX (pc := 47) ho2 fl_X1_72 dX1_make_47 ?_
        refine g_iload_n hX (pc := 50) (i := 3) dX1_make_50 rfl 3 rfl ?_
        obtain ⟨v11, e_v11, h⟩ := bnd h
        refine g_ialoadE hX (pc := 51) (s0_0 ho2).1 (s0_0 ho2).2.1 (s0_0 ho2).2.2.1 e_v11 dX1_make_51 ?_
        refine g_mmin (d := d + 2) hX (pc := 52) hr0 ml_X1_75 (by exact Nat.le_of_ble_eq_true rfl) ⟨Nat.zero_le _, Nat.zero_le _⟩ dX1_make_52 ?_
        refine g_istore hX (pc := 55) (ls' := [(0, .ref o0), (1, .ref o1), (2, .ref o2), (3, .int s6), (4, .int (imin r10 v11))]) [1, 2, 3, 4, 0] dX1_make_55 (by decide) rfl ?_
        refine g_iload hX (pc := 57) dX1_make_57 4 rfl ?_
        obtain ⟨p16, hpj13, h⟩ := bnd h
        have Kj13 : ∀ qj13 : MI, qj13 = p16 → GW E X (QX E X 0 0 none z J Iz) 5 78 [(0, .ref o0), (1, .ref o1), (2, .ref o2), (3, .int s6), (4, .int (imin r10 v11))] [] z J qj13 0 0 := by
          intro qj13 hqj13
          subst hqj13
          refine g_iinc hX (pc := 78) (i := 3) (v := s6 + 1) (ls' := [(0, .ref o0), (1, .ref o1), (2, .ref o2), (3, .int (s6 + 1)), (4, .int (imin r10 v11))]) 3 [1, 2, 3, 0, 4] dX1_make_78 rfl (by rfl) (by decide) rfl ?_
          refine g_goto hX (pc := 81) (tgt := 32) dX1_make_81 (by decide) ?_
          refine g_sub (ls' := [(0, .ref o0), (1, .ref o1), (2, .ref o2), (3, .int (s6 + 1))]) [0, 1, 2, 3] rfl ?_
          obtain rfl := Option.some.inj h
          exact ihl8 (s6 + 1) qj13 hwl8
        replace h := hpj13
        clear hpj13
        refine g_if_le hX (pc := 59) dX1_make_59 (tgt := 78) (by decide) (fun c12 => ?_) (fun c12 => ?_)
        · replace h := ifP c12 h
          refine g_aload_n hX (pc := 62) (i := 0) dX1_make_62 rfl 0 rfl ?_
          refine g_aload_n hX (pc := 63) (i := 1) dX1_make_63 rfl 1 rfl ?_
          refine g_iload_n hX (pc := 64) (i := 3) dX1_make_64 rfl 3 rfl ?_
          refine g_iload hX (pc := 65) dX1_make_65 4 rfl ?_
          obtain ⟨r14, e_r14, h⟩ := bnd h
          refine g_callVv hX (pc := 67) (d := d + 2) hr0 [.ref o1, .int s6, .int (imin r10 v11)] (c := 1) (ct_X1_addPick (d := d + 2) ho0 ho1 e_r14) ho0.1.1 ho0.1.2 (by decide) rfl co_X1_addPick ml_X1_80 im_X1_addPick sl_X1_addPick ini_X1 nm_X1_addPick (by decide) ⟨Nat.le_refl _, Nat.le_refl _⟩ (Nat.le_refl _) (Nat.le_of_ble_eq_true rfl) rfl dX1_make_67 ?_
          refine g_aload_n hX (pc := 70) (i := 0) dX1_make_70 rfl 0 rfl ?_
          refine g_aload_n hX (pc := 71) (i := 1) dX1_make_71 rfl 1 rfl ?_
          refine g_iload_n hX (pc := 72) (i := 3) dX1_make_72 rfl 3 rfl ?_
          refine g_iload hX (pc := 73) dX1_make_73 4 rfl ?_
          obtain ⟨r15, e_r15, h⟩ := bnd h
          refine g_callVv hX (pc := 75) (d := d + 2) hr0 [.ref o1, .int s6, .int (imin r10 v11)] (c := 1) (ct_X1_shareOut (d := d + 1) ho0 ho1 e_r15) ho0.1.1 ho0.1.2 (by decide) rfl co_X1_shareOut ml_X1_84 im_X1_shareOut sl_X1_shareOut ini_X1 nm_X1_shareOut (by decide) ⟨Nat.le_refl _, Nat.le_refl _⟩ (Nat.le_refl _) (Nat.le_of_ble_eq_true rfl) rfl dX1_make_75 ?_
          exact Kj13 r15 (Option.some.inj h)
        · replace h := ifN c12 h
          exact Kj13 I7 (Option.some.inj h)
      · replace h := ifN c9 h
        obtain rfl := Option.some.inj h
        exact Kl8 ((s6, I7)) hwl8
  exact Ll8 kl8 0 r5 hkl8
noncomputable def f_X2_readHoles (o0 b0 : Nat) (o1 : Nat) (I : MI) : Option (MI) :=
  if (I o1 2) = 0 then
    (wf I o1 2 1).bind fun I2 =>
    (f_X2_advance o0 b0 I2).bind fun r3 =>
    (f_X2_readNumber o0 b0 1 8 r3).bind fun r4 =>
    (wf r4.2 o1 1 r4.1).bind fun I5 =>
    some I5
  else
    (f_X2_fail o0 b0 2 I).bind fun r6 =>
    some r6
theorem nm_X2_readHoles : yX2_readHoles.cls ≠ "java/lang/invoke/MethodHandle" ∧ yX2_readHoles.cls ≠ "java/lang/invoke/VarHandle" ∧ (parseMethodDescriptor yX2_readHoles.desc).map (fun d => d.parameters.length) = some 1 := by decide +kernel
set_option maxRecDepth 100000 in
set_option maxHeartbeats 4000000 in
theorem ct_X2_readHoles {E : Ev} {d : Nat} {z : Sh} {J : MJ} {I : MI} {o0 b0 : Nat} {o1 : Nat} {Iz : MI} (ho0 : oX2 z o0 b0) (ho1 : oX3 z o1) (h : f_X2_readHoles o0 b0 o1 I = some Iz) : Ct E (d + 3) yX2_readHoles cX2_readHoles 2 none 0 0 [.ref o0, .ref o1] z J I none z J Iz := by
  unfold f_X2_readHoles at h
  refine Ct.of (own := RX2) (ls := [(0, .ref o0), (1, .ref o1)]) (by decide) rfl (Nat.le_of_ble_eq_true rfl) rfl ?_
  intro X hr0 hnm hX
  refine g_aload_n hX (pc := 0) (i := 1) dX2_readHoles_0 rfl 1 rfl ?_
  refine gf3_2 hX (pc := 1) ho1 fl_X2_74 dX2_readHoles_1 ?_
  refine g_if_eq hX (pc := 4) dX2_readHoles_4 (tgt := 13) (by decide) (fun c1 => ?_) (fun c1 => ?_)
  · replace h := ifP c1 h
    refine g_aload_n hX (pc := 13) (i := 1) dX2_readHoles_13 rfl 1 rfl ?_
    refine g_iconst hX (pc := 14) (v := 1) dX2_readHoles_14 (by decide) ?_
    obtain ⟨I2, e_I2, h⟩ := bnd h
    refine pf3_2 hX (pc := 15) ho1 fl_X2_74 dX2_readHoles_15 e_I2 (by decide) ?_
    refine g_aload_n hX (pc := 18) (i := 0) dX2_readHoles_18 rfl 0 rfl ?_
    obtain ⟨r3, e_r3, h⟩ := bnd h
    refine g_callVv hX (pc := 19) (d := d + 2) hr0 [] (c := 2) (ct_X2_advance (d := d + 1) ho0 e_r3) ho0.1.1 ho0.1.2 (by decide) rfl co_X2_advance ml_X2_45 im_X2_advance sl_X2_advance ini_X2 nm_X2_advance (by decide) ⟨Nat.le_refl _, Nat.le_refl _⟩ (Nat.le_refl _) (Nat.le_of_ble_eq_true rfl) rfl dX2_readHoles_19 ?_
    refine g_aload_n hX (pc := 22) (i := 1) dX2_readHoles_22 rfl 1 rfl ?_
    refine g_aload_n hX (pc := 23) (i := 0) dX2_readHoles_23 rfl 0 rfl ?_
    refine g_iconst hX (pc := 24) (v := 1) dX2_readHoles_24 (by decide) ?_
    refine g_bipush hX (pc := 25) (v := 8) dX2_readHoles_25 (by decide) ?_
    obtain ⟨r4, e_r4, h⟩ := bnd h
    refine g_callVi hX (pc := 27) (d := d + 2) hr0 [.int 1, .int 8] (c := 2) (ct_X2_readNumber (d := d + 0) ho0 e_r4) ho0.1.1 ho0.1.2 (by decide) rfl co_X2_readNumber ml_X2_78 im_X2_readNumber sl_X2_readNumber ini_X2 nm_X2_readNumber (by decide) ⟨Nat.le_refl _, Nat.le_refl _⟩ (Nat.le_refl _) (Nat.le_of_ble_eq_true rfl) rfl dX2_readHoles_27 ?_
    obtain ⟨I5, e_I5, h⟩ := bnd h
    refine pf3_1 hX (pc := 30) ho1 fl_X2_81 dX2_readHoles_30 e_I5 ?_
    obtain rfl := Option.some.inj h
    exact g_return hX (Nat.le_refl _) (Nat.le_refl _) dX2_readHoles_33
  · replace h := ifN c1 h
    refine g_aload_n hX (pc := 7) (i := 0) dX2_readHoles_7 rfl 0 rfl ?_
    refine g_iconst hX (pc := 8) (v := 2) dX2_readHoles_8 (by decide) ?_
    obtain ⟨r6, e_r6, h⟩ := bnd h
    refine g_callVv hX (pc := 9) (d := d + 2) hr0 [.int 2] (c := 2) (ct_X2_fail (d := d + 2) ho0 e_r6) ho0.1.1 ho0.1.2 (by decide) rfl co_X2_fail ml_X2_64 im_X2_fail sl_X2_fail ini_X2 nm_X2_fail (by decide) ⟨Nat.le_refl _, Nat.le_refl _⟩ (Nat.le_refl _) (Nat.le_of_ble_eq_true rfl) rfl dX2_readHoles_9 ?_
    obtain rfl := Option.some.inj h
    exact g_return hX (Nat.le_refl _) (Nat.le_refl _) dX2_readHoles_12
noncomputable def f_X2_readWave (o0 b0 : Nat) (o1 : Nat) (I : MI) : Option (MI) :=
  if (I o1 5) = 0 then
    (wf I o1 5 1).bind fun I2 =>
    (f_X2_advance o0 b0 I2).bind fun r3 =>
    (f_X2_readNumber o0 b0 1 8 r3).bind fun r4 =>
    (wf r4.2 o1 3 r4.1).bind fun I5 =>
    (f_X2_readNumber o0 b0 1 60 I5).bind fun r6 =>
    (wf r6.2 o1 4 r6.1).bind fun I7 =>
    some I7
  else
    (f_X2_fail o0 b0 2 I).bind fun r8 =>
    some r8
theorem nm_X2_readWave : yX2_readWave.cls ≠ "java/lang/invoke/MethodHandle" ∧ yX2_readWave.cls ≠ "java/lang/invoke/VarHandle" ∧ (parseMethodDescriptor yX2_readWave.desc).map (fun d => d.parameters.length) = some 1 := by decide +kernel
set_option maxRecDepth 100000 in
set_option maxHeartbeats 4000000 in
theorem ct_X2_readWave {E : Ev} {d : Nat} {z : Sh} {J : MJ} {I : MI} {o0 b0 : Nat} {o1 : Nat} {Iz : MI} (ho0 : oX2 z o0 b0) (ho1 : oX3 z o1) (h : f_X2_readWave o0 b0 o1 I = some Iz) : Ct E (d + 3) yX2_readWave cX2_readWave 2 none 0 0 [.ref o0, .ref o1] z J I none z J Iz := by
  unfold f_X2_readWave at h
  refine Ct.of (own := RX2) (ls := [(0, .ref o0), (1, .ref o1)]) (by decide) rfl (Nat.le_of_ble_eq_true rfl) rfl ?_
  intro X hr0 hnm hX
  refine g_aload_n hX (pc := 0) (i := 1) dX2_readWave_0 rfl 1 rfl ?_
  refine gf3_5 hX (pc := 1) ho1 fl_X2_84 dX2_readWave_1 ?_
  refine g_if_eq hX (pc := 4) dX2_readWave_4 (tgt := 13) (by decide) (fun c1 => ?_) (fun c1 => ?_)
  · replace h := ifP c1 h
    refine g_aload_n hX (pc := 13) (i := 1) dX2_readWave_13 rfl 1 rfl ?_
    refine g_iconst hX (pc := 14) (v := 1) dX2_readWave_14 (by decide) ?_
    obtain ⟨I2, e_I2, h⟩ := bnd h
    refine pf3_5 hX (pc := 15) ho1 fl_X2_84 dX2_readWave_15 e_I2 (by decide) ?_
    refine g_aload_n hX (pc := 18) (i := 0) dX2_readWave_18 rfl 0 rfl ?_
    obtain ⟨r3, e_r3, h⟩ := bnd h
    refine g_callVv hX (pc := 19) (d := d + 2) hr0 [] (c := 2) (ct_X2_advance (d := d + 1) ho0 e_r3) ho0.1.1 ho0.1.2 (by decide) rfl co_X2_advance ml_X2_45 im_X2_advance sl_X2_advance ini_X2 nm_X2_advance (by decide) ⟨Nat.le_refl _, Nat.le_refl _⟩ (Nat.le_refl _) (Nat.le_of_ble_eq_true rfl) rfl dX2_readWave_19 ?_
    refine g_aload_n hX (pc := 22) (i := 1) dX2_readWave_22 rfl 1 rfl ?_
    refine g_aload_n hX (pc := 23) (i := 0) dX2_readWave_23 rfl 0 rfl ?_
    refine g_iconst hX (pc := 24) (v := 1) dX2_readWave_24 (by decide) ?_
    refine g_bipush hX (pc := 25) (v := 8) dX2_readWave_25 (by decide) ?_
    obtain ⟨r4, e_r4, h⟩ := bnd h
    refine g_callVi hX (pc := 27) (d := d + 2) hr0 [.int 1, .int 8] (c := 2) (ct_X2_readNumber (d := d + 0) ho0 e_r4) ho0.1.1 ho0.1.2 (by decide) rfl co_X2_readNumber ml_X2_78 im_X2_readNumber sl_X2_readNumber ini_X2 nm_X2_readNumber (by decide) ⟨Nat.le_refl _, Nat.le_refl _⟩ (Nat.le_refl _) (Nat.le_of_ble_eq_true rfl) rfl dX2_readWave_27 ?_
    obtain ⟨I5, e_I5, h⟩ := bnd h
    refine pf3_3 hX (pc := 30) ho1 fl_X2_87 dX2_readWave_30 e_I5 ?_
    refine g_aload_n hX (pc := 33) (i := 1) dX2_readWave_33 rfl 1 rfl ?_
    refine g_aload_n hX (pc := 34) (i := 0) dX2_readWave_34 rfl 0 rfl ?_
    refine g_iconst hX (pc := 35) (v := 1) dX2_readWave_35 (by decide) ?_
    refine g_bipush hX (pc := 36) (v := 60) dX2_readWave_36 (by decide) ?_
    obtain ⟨r6, e_r6, h⟩ := bnd h
    refine g_callVi hX (pc := 38) (d := d + 2) hr0 [.int 1, .int 60] (c := 2) (ct_X2_readNumber (d := d + 0) ho0 e_r6) ho0.1.1 ho0.1.2 (by decide) rfl co_X2_readNumber ml_X2_78 im_X2_readNumber sl_X2_readNumber ini_X2 nm_X2_readNumber (by decide) ⟨Nat.le_refl _, Nat.le_refl _⟩ (Nat.le_refl _) (Nat.le_of_ble_eq_true rfl) rfl dX2_readWave_38 ?_
    obtain ⟨I7, e_I7, h⟩ := bnd h
    refine pf3_4 hX (pc := 41) ho1 fl_X2_90 dX2_readWave_41 e_I7 ?_
    obtain rfl := Option.some.inj h
    exact g_return hX (Nat.le_refl _) (Nat.le_refl _) dX2_readWave_44
  · replace h := ifN c1 h
    refine g_aload_n hX (pc := 7) (i := 0) dX2_readWave_7 rfl 0 rfl ?_
    refine g_iconst hX (pc := 8) (v := 2) dX2_readWave_8 (by decide) ?_
    obtain ⟨r8, e_r8, h⟩ := bnd h
    refine g_callVv hX (pc := 9) (d := d + 2) hr0 [.int 2] (c := 2) (ct_X2_fail (d := d + 2) ho0 e_r8) ho0.1.1 ho0.1.2 (by decide) rfl co_X2_fail ml_X2_64 im_X2_fail sl_X2_fail ini_X2 nm_X2_fail (by decide) ⟨Nat.le_refl _, Nat.le_refl _⟩ (Nat.le_refl _) (Nat.le_of_ble_eq_true rfl) rfl dX2_readWave_9 ?_
    obtain rfl := Option.some.inj h
    exact g_return hX (Nat.le_refl _) (Nat.le_refl _) dX2_readWave_12
noncomputable def f_X2_readItem (o0 b0 : Nat) (o1 : Nat) (I : MI) : Option (MI) :=
  if (I o1 6) < 10 then
    (f_X2_advance o0 b0 I).bind fun r2 =>
    (f_X2_readNewName o0 b0 o1 r2).bind fun r3 =>
    (f_X2_readNumber o0 b0 0 99 r3.2).bind fun r4 =>
    (f_X2_readNumber o0 b0 0 99 r4.2).bind fun r5 =>
    (if (r5.2 o0 6) = 0 then
      (f_X3_addItem o1 r3.1 r4.1 r5.1 r5.2).bind fun r8 =>
      some r8
    else
      some r5.2).bind fun (p9 : MI) =>
    some p9
  else
    (f_X2_fail o0 b0 5 I).bind fun r10 =>
    some r10
theorem nm_X2_readItem : yX2_readItem.cls ≠ "java/lang/invoke/MethodHandle" ∧ yX2_readItem.cls ≠ "java/lang/invoke/VarHandle" ∧ (parseMethodDescriptor yX2_readItem.desc).map (fun d => d.parameters.length) = some 1 := by decide +kernel
set_option maxRecDepth 100000 in
set_option maxHeartbeats 4000000 in
theorem ct_X2_readItem {E : Ev} {d : Nat} {z : Sh} {J : MJ} {I : MI} {o0 b0 : Nat} {o1 : Nat} {Iz : MI} (ho0 : oX2 z o0 b0) (ho1 : oX3 z o1) (h : f_X2_readItem o0 b0 o1 I = some Iz) : Ct E (d + 3) yX2_readItem cX2_readItem 5 none 0 0 [.ref o0, .ref o1] z J I none z J Iz := by
  unfold f_X2_readItem at h
  refine Ct.of (own := RX2) (ls := [(0, .ref o0), (1, .ref o1)]) (by decide) rfl (Nat.le_of_ble_eq_true rfl) rfl ?_
  intro X hr0 hnm hX
  refine g_aload_n hX (pc := 0) (i := 1) dX2_readItem_0 rfl 1 rfl ?_
  refine gf3_6 hX (pc := 1) ho1 fl_X2_93 dX2_readItem_1 ?_
  refine g_bipush hX (pc := 4) (v := 10) dX2_readItem_4 (by decide) ?_
  refine g_icmp_lt hX (pc := 6) dX2_readItem_6 (tgt := 15) (by decide) (fun c1 => ?_) (fun c1 => ?_)
  · replace h := ifP c1 h
    refine g_aload_n hX (pc := 15) (i := 0) dX2_readItem_15 rfl 0 rfl ?_
    obtain ⟨r2, e_r2, h⟩ := bnd h
    refine g_callVv hX (pc := 16) (d := d + 2) hr0 [] (c := 2) (ct_X2_advance (d := d + 1) ho0 e_r2) ho0.1.1 ho0.1.2 (by decide) rfl co_X2_advance ml_X2_45 im_X2_advance sl_X2_advance ini_X2 nm_X2_advance (by decide) ⟨Nat.le_refl _, Nat.le_refl _⟩ (Nat.le_refl _) (Nat.le_of_ble_eq_true rfl) rfl dX2_readItem_16 ?_
    refine g_aload_n hX (pc := 19) (i := 0) dX2_readItem_19 rfl 0 rfl ?_
    refine g_aload_n hX (pc := 20) (i := 1) dX2_readItem_20 rfl 1 rfl ?_
    obtain ⟨r3, e_r3, h⟩ := bnd h
    refine g_callVi hX (pc := 21) (d := d + 2) hr0 [.ref o1] (c := 2) (ct_X2_readNewName (d := d + 0) ho0 ho1 e_r3) ho0.1.1 ho0.1.2 (by decide) rfl co_X2_readNewName ml_X2_96 im_X2_readNewName sl_X2_readNewName ini_X2 nm_X2_readNewName (by decide) ⟨Nat.le_refl _, Nat.le_refl _⟩ (Nat.le_refl _) (Nat.le_of_ble_eq_true rfl) rfl dX2_readItem_21 ?_
    refine g_istore_n hX (pc := 24) (i := 2) (ls' := [(0, .ref o0), (1, .ref o1), (2, .int r3.1)]) [1, 2, 0] dX2_readItem_24 rfl (by decide) rfl ?_
    refine g_aload_n hX (pc := 25) (i := 0) dX2_readItem_25 rfl 0 rfl ?_
    refine g_iconst hX (pc := 26) (v := 0) dX2_readItem_26 (by decide) ?_
    refine g_bipush hX (pc := 27) (v := 99) dX2_readItem_27 (by decide) ?_
    obtain ⟨r4, e_r4, h⟩ := bnd h
    refine g_callVi hX (pc := 29) (d := d + 2) hr0 [.int 0, .int 99] (c := 2) (ct_X2_readNumber (d := d + 0) ho0 e_r4) ho0.1.1 ho0.1.2 (by decide) rfl co_X2_readNumber ml_X2_78 im_X2_readNumber sl_X2_readNumber ini_X2 nm_X2_readNumber (by decide) ⟨Nat.le_refl _, Nat.le_refl _⟩ (Nat.le_refl _) (Nat.le_of_ble_eq_true rfl) rfl dX2_readItem_29 ?_
    refine g_istore_n hX (pc := 32) (i := 3) (ls' := [(0, .ref o0), (1, .ref o1), (2, .int r3.1), (3, .int r4.1)]) [1, 2, 3, 0] dX2_readItem_32 rfl (by decide) rfl ?_
    refine g_aload_n hX (pc := 33) (i := 0) dX2_readItem_33 rfl 0 rfl ?_
    refine g_iconst hX (pc := 34) (v := 0) dX2_readItem_34 (by decide) ?_
    refine g_bipush hX (pc := 35) (v := 99) dX2_readItem_35 (by decide) ?_
    obtain ⟨r5, e_r5, h⟩ := bnd h
    refine g_callVi hX (pc := 37) (d := d + 2) hr0 [.int 0, .int 99] (c := 2) (ct_X2_readNumber (d := d + 0) ho0 e_r5) ho0.1.1 ho0.1.2 (by decide) rfl co_X2_readNumber ml_X2_78 im_X2_readNumber sl_X2_readNumber ini_X2 nm_X2_readNumber (by decide) ⟨Nat.le_refl _, Nat.le_refl _⟩ (Nat.le_refl _) (Nat.le_of_ble_eq_true rfl) rfl dX2_readItem_37 ?_
    refine g_istore hX (pc := 40) (ls' := [(0, .ref o0), (1, .ref o1), (2, .int r3.1), (3, .int r4.1), (4, .int r5.1)]) [1, 2, 3, 4, 0] dX2_readItem_40 (by decide) rfl ?_
    refine g_aload_n hX (pc := 42) (i := 0) dX2_readItem_42 rfl 0 rfl ?_
    refine gf2_6 hX (pc := 43) ho0 fl_X2_31 dX2_readItem_43 ?_
    obtain ⟨p9, hpj7, h⟩ := bnd h
    have Kj7 : ∀ qj7 : MI, qj7 = p9 → GW E X (QX E X 0 0 none z J Iz) 5 57 [(0, .ref o0), (1, .ref o1), (2, .int r3.1), (3, .int r4.1), (4, .int r5.1)] [] z J qj7 0 0 := by
      intro qj7 hqj7
      subst hqj7
      obtain rfl := Option.some.inj h
      exact g_return hX (Nat.le_refl _) (Nat.le_refl _) dX2_readItem_57
    replace h := hpj7
    clear hpj7
    refine g_if_ne hX (pc := 46) dX2_readItem_46 (tgt := 57) (by decide) (fun c6 => ?_) (fun c6 => ?_)
    · replace h := ifP c6 h
      refine g_aload_n hX (pc := 49) (i := 1) dX2_readItem_49 rfl 1 rfl ?_
      refine g_iload_n hX (pc := 50) (i := 2) dX2_readItem_50 rfl 2 rfl ?_
      refine g_iload_n hX (pc := 51) (i := 3) dX2_readItem_51 rfl 3 rfl ?_
      refine g_iload hX (pc := 52) dX2_readItem_52 4 rfl ?_
      obtain ⟨r8, e_r8, h⟩ := bnd h
      refine g_callVv hX (pc := 54) (d := d + 2) hr0 [.int r3.1, .int r4.1, .int r5.1] (c := 3) (ct_X3_addItem (d := d + 2) ho1 e_r8) ho1.1.1 ho1.1.2 (by decide) rfl co_X3_addItem ml_X2_100 im_X3_addItem sl_X3_addItem ini_X3 nm_X3_addItem (by decide) ⟨Nat.le_refl _, Nat.le_refl _⟩ (Nat.le_refl _) (Nat.le_of_ble_eq_true rfl) rfl dX2_readItem_54 ?_
      exact Kj7 r8 (Option.some.inj h)
    · replace h := ifN c6 h
      exact Kj7 r5.2 (Option.some.inj h)
  · replace h := ifN c1 h
    refine g_aload_n hX (pc := 9) (i := 0) dX2_readItem_9 rfl 0 rfl ?_
    refine g_iconst hX (pc := 10) (v := 5) dX2_readItem_10 (by decide) ?_
    obtain ⟨r10, e_r10, h⟩ := bnd h
    refine g_callVv hX (pc := 11) (d := d + 2) hr0 [.int 5] (c := 2) (ct_X2_fail (d := d + 2) ho0 e_r10) ho0.1.1 ho0.1.2 (by decide) rfl co_X2_fail ml_X2_64 im_X2_fail sl_X2_fail ini_X2 nm_X2_fail (by decide) ⟨Nat.le_refl _, Nat.le_refl _⟩ (Nat.le_refl _) (Nat.le_of_ble_eq_true rfl) rfl dX2_readItem_11 ?_
    obtain rfl := Option.some.inj h
    exact g_return hX (Nat.le_refl _) (Nat.le_refl _) dX2_readItem_14
noncomputable def b_X2_readOrder_56 (o0 : Nat) (b0 : Nat) (o1 : Nat) (r4 : Int32 × MI) (s : Int32 × MI) : Option ((Int32 × MI) ⊕ (Int32 × MI)) :=
  if 6 < s.1 then
    some (.inr ((s.1, s.2)))
  else
    if (s.2 o0 6) = 0 then
      if s.1 = 0 then
        (rd 16 (s.2 (o1 + 8)) (r4.2 o1 10)).bind fun v13 =>
        (f_X2_readItemOf o0 b0 o1 v13 s.2).bind fun r14 =>
        (f_X2_readNumber o0 b0 1 9 r14.2).bind fun r15 =>
        (if (r15.2 o0 6) = 0 then
          (f_X3_addUnits o1 (r4.2 o1 10) r14.1 r15.1 r15.2).bind fun r18 =>
          some r18
        else
          some r15.2).bind fun (p19 : MI) =>
        some (.inl ((s.1 + 1, p19)))
      else
        if (s.2 o0 3) = 3 then
          some (.inr ((s.1, s.2)))
        else
          (rd 16 (s.2 (o1 + 8)) (r4.2 o1 10)).bind fun v21 =>
          (f_X2_readItemOf o0 b0 o1 v21 s.2).bind fun r22 =>
          (f_X2_readNumber o0 b0 1 9 r22.2).bind fun r23 =>
          (if (r23.2 o0 6) = 0 then
            (f_X3_addUnits o1 (r4.2 o1 10) r22.1 r23.1 r23.2).bind fun r26 =>
            some r26
          else
            some r23.2).bind fun (p27 : MI) =>
          some (.inl ((s.1 + 1, p27)))
    else
      some (.inr ((s.1, s.2)))
noncomputable def f_X2_readOrder (o0 b0 : Nat) (o1 : Nat) (I : MI) : Option (MI) :=
  if (I o1 10) < 16 then
    (f_X2_advance o0 b0 I).bind fun r2 =>
    (f_X2_readNewName o0 b0 o1 r2).bind fun r3 =>
    (f_X2_readNumber o0 b0 0 99 r3.2).bind fun r4 =>
    if (r4.2 o0 6) = 0 then
      (f_X3_addOrder o1 r3.1 r4.1 r4.2).bind fun r6 =>
      (lp (b_X2_readOrder_56 o0 b0 o1 r4) ((0, r6))).bind fun p28 =>
      some p28.2
    else
      some r4.2
  else
    (f_X2_fail o0 b0 5 I).bind fun r29 =>
    some r29
theorem nm_X2_readOrder : yX2_readOrder.cls ≠ "java/lang/invoke/MethodHandle" ∧ yX2_readOrder.cls ≠ "java/lang/invoke/VarHandle" ∧ (parseMethodDescriptor yX2_readOrder.desc).map (fun d => d.parameters.length) = some 1 := by decide +kernel
set_option maxRecDepth 100000 in
set_option maxHeartbeats 4000000 in
theorem ct_X2_readOrder {E : Ev} {d : Nat} {z : Sh} {J : MJ} {I : MI} {o0 b0 : Nat} {o1 : Nat} {Iz : MI} (ho0 : oX2 z o0 b0) (ho1 : oX3 z o1) (h : f_X2_readOrder o0 b0 o1 I = some Iz) : Ct E (d + 3) yX2_readOrder cX2_readOrder 8 none 0 0 [.ref o0, .ref o1] z J I none z J Iz := by
  unfold f_X2_readOrder at h
  refine Ct.of (own := RX2) (ls := [(0, .ref o0), (1, .ref o1)]) (by decide) rfl (Nat.le_of_ble_eq_true rfl) rfl ?_
  intro X hr0 hnm hX
  refine g_aload_n hX (pc := 0) (i := 1) dX2_readOrder_0 rfl 1 rfl ?_
  refine gf3_10 hX (pc := 1) ho1 fl_X2_104 dX2_readOrder_1 ?_
  refine g_bipush hX (pc := 4) (v := 16) dX2_readOrder_4 (by decide) ?_
  refine g_icmp_lt hX (pc := 6) dX2_readOrder_6 (tgt := 15) (by decide) (fun c1 => ?_) (fun c1 => ?_)
  · replace h := ifP c1 h
    refine g_aload_n hX (pc := 15) (i := 0) dX2_readOrder_15 rfl 0 rfl ?_
    obtain ⟨r2, e_r2, h⟩ := bnd h
    refine g_callVv hX (pc := 16) (d := d + 2) hr0 [] (c := 2) (ct_X2_advance (d := d + 1) ho0 e_r2) ho0.1.1 ho0.1.2 (by decide) rfl co_X2_advance ml_X2_45 im_X2_advance sl_X2_advance ini_X2 nm_X2_advance (by decide) ⟨Nat.le_refl _, Nat.le_refl _⟩ (Nat.le_refl _) (Nat.le_of_ble_eq_true rfl) rfl dX2_readOrder_16 ?_
    refine g_aload_n hX (pc := 19) (i := 0) dX2_readOrder_19 rfl 0 rfl ?_
    refine g_aload_n hX (pc := 20) (i := 1) dX2_readOrder_20 rfl 1 rfl ?_
    obtain ⟨r3, e_r3, h⟩ := bnd h
    refine g_callVi hX (pc := 21) (d := d + 2) hr0 [.ref o1] (c := 2) (ct_X2_readNewName (d := d + 0) ho0 ho1 e_r3) ho0.1.1 ho0.1.2 (by decide) rfl co_X2_readNewName ml_X2_96 im_X2_readNewName sl_X2_readNewName ini_X2 nm_X2_readNewName (by decide) ⟨Nat.le_refl _, Nat.le_refl _⟩ (Nat.le_refl _) (Nat.le_of_ble_eq_true rfl) rfl dX2_readOrder_21 ?_
    refine g_istore_n hX (pc := 24) (i := 2) (ls' := [(0, .ref o0), (1, .ref o1), (2, .int r3.1)]) [1, 2, 0] dX2_readOrder_24 rfl (by decide) rfl ?_
    refine g_aload_n hX (pc := 25) (i := 0) dX2_readOrder_25 rfl 0 rfl ?_
    refine g_iconst hX (pc := 26) (v := 0) dX2_readOrder_26 (by decide) ?_
    refine g_bipush hX (pc := 27) (v := 99) dX2_readOrder_27 (by decide) ?_
    obtain ⟨r4, e_r4, h⟩ := bnd h
    refine g_callVi hX (pc := 29) (d := d + 2) hr0 [.int 0, .int 99] (c := 2) (ct_X2_readNumber (d := d + 0) ho0 e_r4) ho0.1.1 ho0.1.2 (by decide) rfl co_X2_readNumber ml_X2_78 im_X2_readNumber sl_X2_readNumber ini_X2 nm_X2_readNumber (by decide) ⟨Nat.le_refl _, Nat.le_refl _⟩ (Nat.le_refl _) (Nat.le_of_ble_eq_true rfl) rfl dX2_readOrder_29 ?_
    refine g_istore_n hX (pc := 32) (i := 3) (ls' := [(0, .ref o0), (1, .ref o1), (2, .int r3.1), (3, .int r4.1)]) [1, 2, 3, 0] dX2_readOrder_32 rfl (by decide) rfl ?_
    refine g_aload_n hX (pc := 33) (i := 0) dX2_readOrder_33 rfl 0 rfl ?_
    refine gf2_6 hX (pc := 34) ho0 fl_X2_31 dX2_readOrder_34 ?_
    refine g_if_eq hX (pc := 37) dX2_readOrder_37 (tgt := 41) (by decide) (fun c5 => ?_) (fun c5 => ?_)
    · replace h := ifP c5 h
      refine g_aload_n hX (pc := 41) (i := 1) dX2_readOrder_41 rfl 1 rfl ?_
      refine gf3_10 hX (pc := 42) ho1 fl_X2_104 dX2_readOrder_42 ?_
      refine g_istore hX (pc := 45) (ls' := [(0, .ref o0), (1, .ref o1), (2, .int r3.1), (3, .int r4.1), (4, .int (r4.2 o1 10))]) [1, 2, 3, 4, 0] dX2_readOrder_45 (by decide) rfl ?_
      refine g_aload_n hX (pc := 47) (i := 1) dX2_readOrder_47 rfl 1 rfl ?_
      refine g_iload_n hX (pc := 48) (i := 2) dX2_readOrder_48 rfl 2 rfl ?_
      refine g_iload_n hX (pc := 49) (i := 3) dX2_readOrder_49 rfl 3 rfl ?_
      obtain ⟨r6, e_r6, h⟩ := bnd h
      refine g_callVv hX (pc := 50) (d := d + 2) hr0 [.int r3.1, .int r4.1] (c := 3) (ct_X3_addOrder (d := d + 2) ho1 e_r6) ho1.1.1 ho1.1.2 (by decide) rfl co_X3_addOrder ml_X2_107 im_X3_addOrder sl_X3_addOrder ini_X3 nm_X3_addOrder (by decide) ⟨Nat.le_refl _, Nat.le_refl _⟩ (Nat.le_refl _) (Nat.le_of_ble_eq_true rfl) rfl dX2_readOrder_50 ?_
      refine g_iconst hX (pc := 53) (v := 0) dX2_readOrder_53 (by decide) ?_
      refine g_istore hX (pc := 54) (ls' := [(0, .ref o0), (1, .ref o1), (2, .int r3.1), (3, .int r4.1), (4, .int (r4.2 o1 10)), (5, .int 0)]) [1, 2, 3, 4, 5, 0] dX2_readOrder_54 (by decide) rfl ?_
      obtain ⟨p28, hpl9, h⟩ := bnd h
      have Kl9 : ∀ ql9 : Int32 × MI, ql9 = p28 → GW E X (QX E X 0 0 none z J Iz) 8 129 [(0, .ref o0), (1, .ref o1), (2, .int r3.1), (3, .int r4.1), (4, .int (r4.2 o1 10)), (5, .int ql9.1)] [] z J ql9.2 0 0 := by
        intro ql9 hql9
        subst hql9
        obtain rfl := Option.some.inj h
        exact g_return hX (Nat.le_refl _) (Nat.le_refl _) dX2_readOrder_129
      obtain ⟨kl9, hkl9⟩ := lp_ex hpl9
      clear hpl9 h
      have Ll9 : ∀ k : Nat, ∀ (s7 : Int32) (I8 : MI), lpN k (b_X2_readOrder_56 o0 b0 o1 r4) ((s7, I8)) = some p28 → GW E X (QX E X 0 0 none z J Iz) 8 56 [(0, .ref o0), (1, .ref o1), (2, .int r3.1), (3, .int r4.1), (4, .int (r4.2 o1 10)), (5, .int s7)] [] z J I8 0 0 := by
        intro k
        induction k with
        | zero => intro s7 I8 h; cases h
        | succ k ihl9 =>
          intro s7 I8 h
          obtain ⟨wl9, h, hwl9⟩ := lpN_s h
          unfold b_X2_readOrder_56 at h
          try dsimp only at h
          refine g_iload hX (pc := 56) dX2_readOrder_56 5 rfl ?_
          refine g_bipush hX (pc := 58) (v := 6) dX2_readOrder_58 (by decide) ?_
          refine g_icmp_gt hX (pc := 60) dX2_readOrder_60 (tgt := 129) (by decide) (fun c10 => ?_) (fun c10 => ?_)
          · replace h := ifP c10 h
            obtain rfl := Option.some.inj h
            exact Kl9 ((s7, I8)) hwl9
          · replace h := ifN c10 h
            refine g_aload_n hX (pc := 63) (i := 0) dX2_readOrder_63 rfl 0 rfl ?_
            refine gf2_6 hX (pc := 64) ho0 fl_X2_31 dX2_readOrder_64 ?_
            refine g_if_ne hX (pc := 67) dX2_readOrder_67 (tgt := 129) (by decide) (fun c11 => ?_) (fun c11 => ?_)
            · replace h := ifP c11 h
              refine g_iload hX (pc := 70) dX2_readOrder_70 5 rfl ?_
              refine g_if_eq hX (pc := 72) dX2_readOrder_72 (tgt := 83) (by decide) (fun c12 => ?_) (fun c12 => ?_)
              · replace h := ifP c12 h
                refine g_aload_n hX (pc := 83) (i := 0) dX2_readOrder_83 rfl 0 rfl ?_
                refine g_aload_n hX (pc := 84) (i := 1) dX2_readOrder_84 rfl 1 rfl ?_
                refine g_aload_n hX (pc := 85) (i := 1) dX2_readOrder_85 rfl 1 rfl ?_
                refine gf3_15 hX (pc := 86) ho1 fl_X2_111 dX2_readOrder_86 ?_
                refine g_iload hX (pc := 89) dX2_readOrder_89 4 rfl ?_
                obtain ⟨v13, e_v13, h⟩ := bnd h
                refine g_ialoadE hX (pc := 91) (s3_15 ho1).1 (s3_15 ho1).2.1 (s3_15 ho1).2.2.1 e_v13 dX2_readOrder_91 ?_
                obtain ⟨r14, e_r14, h⟩ := bnd h
                refine g_callVi hX (pc := 92) (d := d + 2) hr0 [.ref o1, .int v13] (c := 2) (ct_X2_readItemOf (d := d + 0) ho0 ho1 e_r14) ho0.1.1 ho0.1.2 (by decide) rfl co_X2_readItemOf ml_X2_115 im_X2_readItemOf sl_X2_readItemOf ini_X2 nm_X2_readItemOf (by decide) ⟨Nat.le_refl _, Nat.le_refl _⟩ (Nat.le_refl _) (Nat.le_of_ble_eq_true rfl) rfl dX2_readOrder_92 ?_
                refine g_istore hX (pc := 95) (ls' := [(0, .ref o0), (1, .ref o1), (2, .int r3.1), (3, .int r4.1), (4, .int (r4.2 o1 10)), (5, .int s7), (6, .int r14.1)]) [1, 2, 3, 4, 5, 6, 0] dX2_readOrder_95 (by decide) rfl ?_
                refine g_aload_n hX (pc := 97) (i := 0) dX2_readOrder_97 rfl 0 rfl ?_
                refine g_iconst hX (pc := 98) (v := 1) dX2_readOrder_98 (by decide) ?_
                refine g_bipush hX (pc := 99) (v := 9) dX2_readOrder_99 (by decide) ?_
                obtain ⟨r15, e_r15, h⟩ := bnd h
                refine g_callVi hX (pc := 101) (d := d + 2) hr0 [.int 1, .int 9] (c := 2) (ct_X2_readNumber (d := d + 0) ho0 e_r15) ho0.1.1 ho0.1.2 (by decide) rfl co_X2_readNumber ml_X2_78 im_X2_readNumber sl_X2_readNumber ini_X2 nm_X2_readNumber (by decide) ⟨Nat.le_refl _, Nat.le_refl _⟩ (Nat.le_refl _) (Nat.le_of_ble_eq_true rfl) rfl dX2_readOrder_101 ?_
                refine g_istore hX (pc := 104) (ls' := [(0, .ref o0), (1, .ref o1), (2, .int r3.1), (3, .int r4.1), (4, .int (r4.2 o1 10)), (5, .int s7), (6, .int r14.1), (7, .int r15.1)]) [1, 2, 3, 4, 5, 6, 7, 0] dX2_readOrder_104 (by decide) rfl ?_
                refine g_aload_n hX (pc := 106) (i := 0) dX2_readOrder_106 rfl 0 rfl ?_
                refine gf2_6 hX (pc := 107) ho0 fl_X2_31 dX2_readOrder_107 ?_
                obtain ⟨p19, hpj17, h⟩ := bnd h
                have Kj17 : ∀ qj17 : MI, qj17 = p19 → GW E X (QX E X 0 0 none z J Iz) 8 123 [(0, .ref o0), (1, .ref o1), (2, .int r3.1), (3, .int r4.1), (4, .int (r4.2 o1 10)), (5, .int s7), (6, .int r14.1), (7, .int r15.1)] [] z J qj17 0 0 := by
                  intro qj17 hqj17
                  subst hqj17
                  refine g_iinc hX (pc := 123) (i := 5) (v := s7 + 1) (ls' := [(0, .ref o0), (1, .ref o1), (2, .int r3.1), (3, .int r4.1), (4, .int (r4.2 o1 10)), (5, .int (s7 + 1)), (6, .int r14.1), (7, .int r15.1)]) 5 [1, 2, 3, 4, 5, 0, 6, 7] dX2_readOrder_123 rfl (by rfl) (by decide) rfl ?_
                  refine g_goto hX (pc := 126) (tgt := 56) dX2_readOrder_126 (by decide) ?_
                  refine g_sub (ls' := [(0, .ref o0), (1, .ref o1), (2, .int r3.1), (3, .int r4.1), (4, .int (r4.2 o1 10)), (5, .int (s7 + 1))]) [0, 1, 2, 3, 4, 5] rfl ?_
                  obtain rfl := Option.some.inj h
                  exact ihl9 (s7 + 1) qj17 hwl9
                replace h := hpj17
                clear hpj17
                refine g_if_ne hX (pc := 110) dX2_readOrder_110 (tgt := 123) (by decide) (fun c16 => ?_) (fun c16 => ?_)
                · replace h := ifP c16 h
                  refine g_aload_n hX (pc := 113) (i := 1) dX2_readOrder_113 rfl 1 rfl ?_
                  refine g_iload hX (pc := 114) dX2_readOrder_114 4 rfl ?_
                  refine g_iload hX (pc := 116) dX2_readOrder_116 6 rfl ?_
                  refine g_iload hX (pc := 118) dX2_readOrder_118 7 rfl ?_
                  obtain ⟨r18, e_r18, h⟩ := bnd h
                  refine g_callVv hX (pc := 120) (d := d + 2) hr0 [.int (r4.2 o1 10), .int r14.1, .int r15.1] (c := 3) (ct_X3_addUnits (d := d + 1) ho1 e_r18) ho1.1.1 ho1.1.2 (by decide) rfl co_X3_addUnits ml_X2_119 im_X3_addUnits sl_X3_addUnits ini_X3 nm_X3_addUnits (by decide) ⟨Nat.le_refl _, Nat.le_refl _⟩ (Nat.le_refl _) (Nat.le_of_ble_eq_true rfl) rfl dX2_readOrder_120 ?_
                  exact Kj17 r18 (Option.some.inj h)
                · replace h := ifN c16 h
                  exact Kj17 r15.2 (Option.some.inj h)
              · replace h := ifN c12 h
                refine g_aload_n hX (pc := 75) (i := 0) dX2_readOrder_75 rfl 0 rfl ?_
                refine gf2_3 hX (pc := 76) ho0 fl_X2_22 dX2_readOrder_76 ?_
                refine g_iconst hX (pc := 79) (v := 3) dX2_readOrder_79 (by decide) ?_
                refine g_icmp_eq hX (pc := 80) dX2_readOrder_80 (tgt := 129) (by decide) (fun c20 => ?_) (fun c20 => ?_)
                · replace h := ifP c20 h
                  obtain rfl := Option.some.inj h
                  exact Kl9 ((s7, I8)) hwl9
                · replace h := ifN c20 h
                  refine g_aload_n hX (pc := 83) (i := 0) dX2_readOrder_83 rfl 0 rfl ?_
                  refine g_aload_n hX (pc := 84) (i := 1) dX2_readOrder_84 rfl 1 rfl ?_
                  refine g_aload_n hX (pc := 85) (i := 1) dX2_readOrder_85 rfl 1 rfl ?_
                  refine gf3_15 hX (pc := 86) ho1 fl_X2_111 dX2_readOrder_86 ?_
                  refine g_iload hX (pc := 89) dX2_readOrder_89 4 rfl ?_
                  obtain ⟨v21, e_v21, h⟩ := bnd h
                  refine g_ialoadE hX (pc := 91) (s3_15 ho1).1 (s3_15 ho1).2.1 (s3_15 ho1).2.2.1 e_v21 dX2_readOrder_91 ?_
                  obtain ⟨r22, e_r22, h⟩ := bnd h
                  refine g_callVi hX (pc := 92) (d := d + 2) hr0 [.ref o1, .int v21] (c := 2) (ct_X2_readItemOf (d := d + 0) ho0 ho1 e_r22) ho0.1.1 ho0.1.2 (by decide) rfl co_X2_readItemOf ml_X2_115 im_X2_readItemOf sl_X2_readItemOf ini_X2 nm_X2_readItemOf (by decide) ⟨Nat.le_refl _, Nat.le_refl _⟩ (Nat.le_refl _) (Nat.le_of_ble_eq_true rfl) rfl dX2_readOrder_92 ?_
                  refine g_istore hX (pc := 95) (ls' := [(0, .ref o0), (1, .ref o1), (2, .int r3.1), (3, .int r4.1), (4, .int (r4.2 o1 10)), (5, .int s7), (6, .int r22.1)]) [1, 2, 3, 4, 5, 6, 0] dX2_readOrder_95 (by decide) rfl ?_
                  refine g_aload_n hX (pc := 97) (i := 0) dX2_readOrder_97 rfl 0 rfl ?_
                  refine g_iconst hX (pc := 98) (v := 1) dX2_readOrder_98 (by decide) ?_
                  refine g_bipush hX (pc := 99) (v := 9) dX2_readOrder_99 (by decide) ?_
                  obtain ⟨r23, e_r23, h⟩ := bnd h
                  refine g_callVi hX (pc := 101) (d := d + 2) hr0 [.int 1, .int 9] (c := 2) (ct_X2_readNumber (d := d + 0) ho0 e_r23) ho0.1.1 ho0.1.2 (by decide) rfl co_X2_readNumber ml_X2_78 im_X2_readNumber sl_X2_readNumber ini_X2 nm_X2_readNumber (by decide) ⟨Nat.le_refl _, Nat.le_refl _⟩ (Nat.le_refl _) (Nat.le_of_ble_eq_true rfl) rfl dX2_readOrder_101 ?_
                  refine g_istore hX (pc := 104) (ls' := [(0, .ref o0), (1, .ref o1), (2, .int r3.1), (3, .int r4.1), (4, .int (r4.2 o1 10)), (5, .int s7), (6, .int r22.1), (7, .int r23.1)]) [1, 2, 3, 4, 5, 6, 7, 0] dX2_readOrder_104 (by decide) rfl ?_
                  refine g_aload_n hX (pc := 106) (i := 0) dX2_readOrder_106 rfl 0 rfl ?_
                  refine gf2_6 hX (pc := 107) ho0 fl_X2_31 dX2_readOrder_107 ?_
                  obtain ⟨p27, hpj25, h⟩ := bnd h
                  have Kj25 : ∀ qj25 : MI, qj25 = p27 → GW E X (QX E X 0 0 none z J Iz) 8 123 [(0, .ref o0), (1, .ref o1), (2, .int r3.1), (3, .int r4.1), (4, .int (r4.2 o1 10)), (5, .int s7), (6, .int r22.1), (7, .int r23.1)] [] z J qj25 0 0 := by
                    intro qj25 hqj25
                    subst hqj25
                    refine g_iinc hX (pc := 123) (i := 5) (v := s7 + 1) (ls' := [(0, .ref o0), (1, .ref o1), (2, .int r3.1), (3, .int r4.1), (4, .int (r4.2 o1 10)), (5, .int (s7 + 1)), (6, .int r22.1), (7, .int r23.1)]) 5 [1, 2, 3, 4, 5, 0, 6, 7] dX2_readOrder_123 rfl (by rfl) (by decide) rfl ?_
                    refine g_goto hX (pc := 126) (tgt := 56) dX2_readOrder_126 (by decide) ?_
                    refine g_sub (ls' := [(0, .ref o0), (1, .ref o1), (2, .int r3.1), (3, .int r4.1), (4, .int (r4.2 o1 10)), (5, .int (s7 + 1))]) [0, 1, 2, 3, 4, 5] rfl ?_
                    obtain rfl := Option.some.inj h
                    exact ihl9 (s7 + 1) qj25 hwl9
                  replace h := hpj25
                  clear hpj25
                  refine g_if_ne hX (pc := 110) dX2_readOrder_110 (tgt := 123) (by decide) (fun c24 => ?_) (fun c24 => ?_)
                  · replace h := ifP c24 h
                    refine g_aload_n hX (pc := 113) (i := 1) dX2_readOrder_113 rfl 1 rfl ?_
                    refine g_iload hX (pc := 114) dX2_readOrder_114 4 rfl ?_
                    refine g_iload hX (pc := 116) dX2_readOrder_116 6 rfl ?_
                    refine g_iload hX (pc := 118) dX2_readOrder_118 7 rfl ?_
                    obtain ⟨r26, e_r26, h⟩ := bnd h
                    refine g_callVv hX (pc := 120) (d := d + 2) hr0 [.int (r4.2 o1 10), .int r22.1, .int r23.1] (c := 3) (ct_X3_addUnits (d := d + 1) ho1 e_r26) ho1.1.1 ho1.1.2 (by decide) rfl co_X3_addUnits ml_X2_119 im_X3_addUnits sl_X3_addUnits ini_X3 nm_X3_addUnits (by decide) ⟨Nat.le_refl _, Nat.le_refl _⟩ (Nat.le_refl _) (Nat.le_of_ble_eq_true rfl) rfl dX2_readOrder_120 ?_
                    exact Kj25 r26 (Option.some.inj h)
                  · replace h := ifN c24 h
                    exact Kj25 r23.2 (Option.some.inj h)
            · replace h := ifN c11 h
              obtain rfl := Option.some.inj h
              exact Kl9 ((s7, I8)) hwl9
      exact Ll9 kl9 0 r6 hkl9
    · replace h := ifN c5 h
      obtain rfl := Option.some.inj h
      exact g_return hX (Nat.le_refl _) (Nat.le_refl _) dX2_readOrder_40
  · replace h := ifN c1 h
    refine g_aload_n hX (pc := 9) (i := 0) dX2_readOrder_9 rfl 0 rfl ?_
    refine g_iconst hX (pc := 10) (v := 5) dX2_readOrder_10 (by decide) ?_
    obtain ⟨r29, e_r29, h⟩ := bnd h
    refine g_callVv hX (pc := 11) (d := d + 2) hr0 [.int 5] (c := 2) (ct_X2_fail (d := d + 2) ho0 e_r29) ho0.1.1 ho0.1.2 (by decide) rfl co_X2_fail ml_X2_64 im_X2_fail sl_X2_fail ini_X2 nm_X2_fail (by decide) ⟨Nat.le_refl _, Nat.le_refl _⟩ (Nat.le_refl _) (Nat.le_of_ble_eq_true rfl) rfl dX2_readOrder_11 ?_
    obtain rfl := Option.some.inj h
    exact g_return hX (Nat.le_refl _) (Nat.le_refl _) dX2_readOrder_14
noncomputable def f_X4_wave (o0 t0 u0 : Nat) (I : MI) : Option (Int32 × MI) :=
  (f_X1_make (o0 + 34) t0 (o0 + 24) I).bind fun r1 =>
  some ((r1 (o0 + 34) 0, r1))
theorem nm_X4_wave : yX4_wave.cls ≠ "java/lang/invoke/MethodHandle" ∧ yX4_wave.cls ≠ "java/lang/invoke/VarHandle" ∧ (parseMethodDescriptor yX4_wave.desc).map (fun d => d.parameters.length) = some 0 := by decide +kernel
set_option maxRecDepth 100000 in
set_option maxHeartbeats 4000000 in
theorem ct_X4_wave {E : Ev} {d : Nat} {z : Sh} {J : MJ} {I : MI} {o0 t0 u0 : Nat} {rr : Int32} {Iz : MI} (ho0 : oX4 z o0 t0 u0) (h : f_X4_wave o0 t0 u0 I = some ((rr, Iz))) : Ct E (d + 4) yX4_wave cX4_wave 1 (some .int) 0 0 [.ref o0] z J I (some (.int rr)) z J Iz := by
  unfold f_X4_wave at h
  refine Ct.of (own := RX4) (ls := [(0, .ref o0)]) (by decide) rfl (Nat.le_of_ble_eq_true rfl) rfl ?_
  intro X hr0 hnm hX
  refine g_aload_n hX (pc := 0) (i := 0) dX4_wave_0 rfl 0 rfl ?_
  refine gf4_6 hX (pc := 1) ho0 fl_X4_44 dX4_wave_1 ?_
  refine g_aload_n hX (pc := 4) (i := 0) dX4_wave_4 rfl 0 rfl ?_
  refine gf4_3 hX (pc := 5) ho0 fl_X4_27 dX4_wave_5 ?_
  refine g_aload_n hX (pc := 8) (i := 0) dX4_wave_8 rfl 0 rfl ?_
  refine gf4_5 hX (pc := 9) ho0 fl_X4_37 dX4_wave_9 ?_
  obtain ⟨r1, e_r1, h⟩ := bnd h
  refine g_callVv hX (pc := 12) (d := d + 3) hr0 [.ref t0, .ref (o0 + 24)] (c := 1) (ct_X1_make (d := d + 0) (s4_6 ho0).1 (s4_3 ho0).1 (s4_5 ho0).1 e_r1) (s4_6 ho0).1.1.1 (s4_6 ho0).1.1.2 (by decide) rfl co_X1_make ml_X4_147 im_X1_make sl_X1_make ini_X1 nm_X1_make (by decide) ⟨Nat.le_refl _, Nat.le_refl _⟩ (Nat.le_refl _) (Nat.le_of_ble_eq_true rfl) rfl dX4_wave_12 ?_
  refine g_aload_n hX (pc := 15) (i := 0) dX4_wave_15 rfl 0 rfl ?_
  refine gf4_6 hX (pc := 16) ho0 fl_X4_44 dX4_wave_16 ?_
  refine gf1_0 hX (pc := 19) (s4_6 ho0).1 fl_X4_151 dX4_wave_19 ?_
  replace h := Option.some.inj h
  obtain ⟨rfl, rfl⟩ := Prod.mk.inj h
  exact g_ireturn hX (Nat.le_refl _) (Nat.le_refl _) dX4_wave_22
noncomputable def f_X4_pick (o0 t0 u0 : Nat) (x1 : Int32) (x2 : Int32) (I : MI) : Option (Int32 × MI) :=
  (f_X1_make (o0 + 34) t0 (o0 + 24) I).bind fun r1 =>
  if x1 = ((-1)) then
    some ((r1 (o0 + 34) 1, r1))
  else
    if x1 < 0 then
      some (((-2), r1))
    else
      if x1 < (r1 (o0 + 34) 1) then
        if x2 < 0 then
          some (((-2), r1))
        else
          if 1 < x2 then
            some (((-2), r1))
          else
            (if x2 = 0 then
              (rd 10 (r1 (o0 + 34 + 1)) x1).bind fun v9 =>
              some v9
            else
              (rd 10 (r1 (o0 + 34 + 2)) x1).bind fun v10 =>
              some v10).bind fun (p11 : Int32) =>
            some ((p11, r1))
      else
        some (((-2), r1))
theorem nm_X4_pick : yX4_pick.cls ≠ "java/lang/invoke/MethodHandle" ∧ yX4_pick.cls ≠ "java/lang/invoke/VarHandle" ∧ (parseMethodDescriptor yX4_pick.desc).map (fun d => d.parameters.length) = some 2 := by decide +kernel
set_option maxRecDepth 100000 in
set_option maxHeartbeats 4000000 in
theorem ct_X4_pick {E : Ev} {d : Nat} {z : Sh} {J : MJ} {I : MI} {o0 t0 u0 : Nat} {x1 : Int32} {x2 : Int32} {rr : Int32} {Iz : MI} (ho0 : oX4 z o0 t0 u0) (h : f_X4_pick o0 t0 u0 x1 x2 I = some ((rr, Iz))) : Ct E (d + 4) yX4_pick cX4_pick 3 (some .int) 0 0 [.ref o0, .int x1, .int x2] z J I (some (.int rr)) z J Iz := by
  unfold f_X4_pick at h
  refine Ct.of (own := RX4) (ls := [(0, .ref o0), (1, .int x1), (2, .int x2)]) (by decide) rfl (Nat.le_of_ble_eq_true rfl) rfl ?_
  intro X hr0 hnm hX
  refine g_aload_n hX (pc := 0) (i := 0) dX4_pick_0 rfl 0 rfl ?_
  refine gf4_6 hX (pc := 1) ho0 fl_X4_44 dX4_pick_1 ?_
  refine g_aload_n hX (pc := 4) (i := 0) dX4_pick_4 rfl 0 rfl ?_
  refine gf4_3 hX (pc := 5) ho0 fl_X4_27 dX4_pick_5 ?_
  refine g_aload_n hX (pc := 8) (i := 0) dX4_pick_8 rfl 0 rfl ?_
  refine gf4_5 hX (pc := 9) ho0 fl_X4_37 dX4_pick_9 ?_
  obtain ⟨r1, e_r1, h⟩ := bnd h
  refine g_callVv hX (pc := 12) (d := d + 3) hr0 [.ref t0, .ref (o0 + 24)] (c := 1) (ct_X1_make (d := d + 0) (s4_6 ho0).1 (s4_3 ho0).1 (s4_5 ho0).1 e_r1) (s4_6 ho0).1.1.1 (s4_6 ho0).1.1.2 (by decide) rfl co_X1_make ml_X4_147 im_X1_make sl_X1_make ini_X1 nm_X1_make (by decide) ⟨Nat.le_refl _, Nat.le_refl _⟩ (Nat.le_refl _) (Nat.le_of_ble_eq_true rfl) rfl dX4_pick_12 ?_
  refine g_iload_n hX (pc := 15) (i := 1) dX4_pick_15 rfl 1 rfl ?_
  refine g_iconst hX (pc := 16) (v := (-1)) dX4_pick_16 (by decide) ?_
  refine g_icmp_ne hX (pc := 17) dX4_pick_17 (tgt := 28) (by decide) (fun c2 => ?_) (fun c2 => ?_)
  · replace h := ifP c2 h
    refine g_aload_n hX (pc := 20) (i := 0) dX4_pick_20 rfl 0 rfl ?_
    refine gf4_6 hX (pc := 21) ho0 fl_X4_44 dX4_pick_21 ?_
    refine gf1_1 hX (pc := 24) (s4_6 ho0).1 fl_X4_154 dX4_pick_24 ?_
    replace h := Option.some.inj h
    obtain ⟨rfl, rfl⟩ := Prod.mk.inj h
    exact g_ireturn hX (Nat.le_refl _) (Nat.le_refl _) dX4_pick_27
  · replace h := ifN c2 h
    refine g_iload_n hX (pc := 28) (i := 1) dX4_pick_28 rfl 1 rfl ?_
    refine g_if_lt hX (pc := 29) dX4_pick_29 (tgt := 52) (by decide) (fun c3 => ?_) (fun c3 => ?_)
    · replace h := ifP c3 h
      refine g_bipush hX (pc := 52) (v := (-2)) dX4_pick_52 (by decide) ?_
      replace h := Option.some.inj h
      obtain ⟨rfl, rfl⟩ := Prod.mk.inj h
      exact g_ireturn hX (Nat.le_refl _) (Nat.le_refl _) dX4_pick_54
    · replace h := ifN c3 h
      refine g_iload_n hX (pc := 32) (i := 1) dX4_pick_32 rfl 1 rfl ?_
      refine g_aload_n hX (pc := 33) (i := 0) dX4_pick_33 rfl 0 rfl ?_
      refine gf4_6 hX (pc := 34) ho0 fl_X4_44 dX4_pick_34 ?_
      refine gf1_1 hX (pc := 37) (s4_6 ho0).1 fl_X4_154 dX4_pick_37 ?_
      refine g_icmp_ge hX (pc := 40) dX4_pick_40 (tgt := 52) (by decide) (fun c4 => ?_) (fun c4 => ?_)
      · replace h := ifP c4 h
        refine g_iload_n hX (pc := 43) (i := 2) dX4_pick_43 rfl 2 rfl ?_
        refine g_if_lt hX (pc := 44) dX4_pick_44 (tgt := 52) (by decide) (fun c5 => ?_) (fun c5 => ?_)
        · replace h := ifP c5 h
          refine g_bipush hX (pc := 52) (v := (-2)) dX4_pick_52 (by decide) ?_
          replace h := Option.some.inj h
          obtain ⟨rfl, rfl⟩ := Prod.mk.inj h
          exact g_ireturn hX (Nat.le_refl _) (Nat.le_refl _) dX4_pick_54
        · replace h := ifN c5 h
          refine g_iload_n hX (pc := 47) (i := 2) dX4_pick_47 rfl 2 rfl ?_
          refine g_iconst hX (pc := 48) (v := 1) dX4_pick_48 (by decide) ?_
          refine g_icmp_le hX (pc := 49) dX4_pick_49 (tgt := 55) (by decide) (fun c6 => ?_) (fun c6 => ?_)
          · replace h := ifP c6 h
            refine g_bipush hX (pc := 52) (v := (-2)) dX4_pick_52 (by decide) ?_
            replace h := Option.some.inj h
            obtain ⟨rfl, rfl⟩ := Prod.mk.inj h
            exact g_ireturn hX (Nat.le_refl _) (Nat.le_refl _) dX4_pick_54
          · replace h := ifN c6 h
            refine g_iload_n hX (pc := 55) (i := 2) dX4_pick_55 rfl 2 rfl ?_
            obtain ⟨p11, hpj8, h⟩ := bnd h
            have Kj8 : ∀ qj8 : Int32, qj8 = p11 → GW E X (QX E X 0 0 (some (.int rr)) z J Iz) 3 80 [(0, .ref o0), (1, .int x1), (2, .int x2)] [.int qj8] z J r1 0 0 := by
              intro qj8 hqj8
              subst hqj8
              replace h := Option.some.inj h
              obtain ⟨rfl, rfl⟩ := Prod.mk.inj h
              exact g_ireturn hX (Nat.le_refl _) (Nat.le_refl _) dX4_pick_80
            replace h := hpj8
            clear hpj8
            refine g_if_ne hX (pc := 56) dX4_pick_56 (tgt := 71) (by decide) (fun c7 => ?_) (fun c7 => ?_)
            · replace h := ifP c7 h
              refine g_aload_n hX (pc := 59) (i := 0) dX4_pick_59 rfl 0 rfl ?_
              refine gf4_6 hX (pc := 60) ho0 fl_X4_44 dX4_pick_60 ?_
              refine gf1_2 hX (pc := 63) (s4_6 ho0).1 fl_X4_157 dX4_pick_63 ?_
              refine g_iload_n hX (pc := 66) (i := 1) dX4_pick_66 rfl 1 rfl ?_
              obtain ⟨v9, e_v9, h⟩ := bnd h
              refine g_ialoadE hX (pc := 67) (s1_2 (s4_6 ho0).1).1 (s1_2 (s4_6 ho0).1).2.1 (s1_2 (s4_6 ho0).1).2.2.1 e_v9 dX4_pick_67 ?_
              refine g_goto hX (pc := 68) (tgt := 80) dX4_pick_68 (by decide) ?_
              exact Kj8 v9 (Option.some.inj h)
            · replace h := ifN c7 h
              refine g_aload_n hX (pc := 71) (i := 0) dX4_pick_71 rfl 0 rfl ?_
              refine gf4_6 hX (pc := 72) ho0 fl_X4_44 dX4_pick_72 ?_
              refine gf1_3 hX (pc := 75) (s4_6 ho0).1 fl_X4_160 dX4_pick_75 ?_
              refine g_iload_n hX (pc := 78) (i := 1) dX4_pick_78 rfl 1 rfl ?_
              obtain ⟨v10, e_v10, h⟩ := bnd h
              refine g_ialoadE hX (pc := 79) (s1_3 (s4_6 ho0).1).1 (s1_3 (s4_6 ho0).1).2.1 (s1_3 (s4_6 ho0).1).2.2.1 e_v10 dX4_pick_79 ?_
              exact Kj8 v10 (Option.some.inj h)
      · replace h := ifN c4 h
        refine g_bipush hX (pc := 52) (v := (-2)) dX4_pick_52 (by decide) ?_
        replace h := Option.some.inj h
        obtain ⟨rfl, rfl⟩ := Prod.mk.inj h
        exact g_ireturn hX (Nat.le_refl _) (Nat.le_refl _) dX4_pick_54
noncomputable def f_X4_walk (o0 t0 u0 : Nat) (I : MI) : Option (Int32 × MI) :=
  (f_X1_make (o0 + 34) t0 (o0 + 24) I).bind fun r1 =>
  (f_X1_distance (o0 + 34) t0 r1).bind fun r2 =>
  some ((r2, r1))
theorem nm_X4_walk : yX4_walk.cls ≠ "java/lang/invoke/MethodHandle" ∧ yX4_walk.cls ≠ "java/lang/invoke/VarHandle" ∧ (parseMethodDescriptor yX4_walk.desc).map (fun d => d.parameters.length) = some 0 := by decide +kernel
set_option maxRecDepth 100000 in
set_option maxHeartbeats 4000000 in
theorem ct_X4_walk {E : Ev} {d : Nat} {z : Sh} {J : MJ} {I : MI} {o0 t0 u0 : Nat} {rr : Int32} {Iz : MI} (ho0 : oX4 z o0 t0 u0) (h : f_X4_walk o0 t0 u0 I = some ((rr, Iz))) : Ct E (d + 4) yX4_walk cX4_walk 1 (some .int) 0 0 [.ref o0] z J I (some (.int rr)) z J Iz := by
  unfold f_X4_walk at h
  refine Ct.of (own := RX4) (ls := [(0, .ref o0)]) (by decide) rfl (Nat.le_of_ble_eq_true rfl) rfl ?_
  intro X hr0 hnm hX
  refine g_aload_n hX (pc := 0) (i := 0) dX4_walk_0 rfl 0 rfl ?_
  refine gf4_6 hX (pc := 1) ho0 fl_X4_44 dX4_walk_1 ?_
  refine g_aload_n hX (pc := 4) (i := 0) dX4_walk_4 rfl 0 rfl ?_
  refine gf4_3 hX (pc := 5) ho0 fl_X4_27 dX4_walk_5 ?_
  refine g_aload_n hX (pc := 8) (i := 0) dX4_walk_8 rfl 0 rfl ?_
  refine gf4_5 hX (pc := 9) ho0 fl_X4_37 dX4_walk_9 ?_
  obtain ⟨r1, e_r1, h⟩ := bnd h
  refine g_callVv hX (pc := 12) (d := d + 3) hr0 [.ref t0, .ref (o0 + 24)] (c := 1) (ct_X1_make (d := d + 0) (s4_6 ho0).1 (s4_3 ho0).1 (s4_5 ho0).1 e_r1) (s4_6 ho0).1.1.1 (s4_6 ho0).1.1.2 (by decide) rfl co_X1_make ml_X4_147 im_X1_make sl_X1_make ini_X1 nm_X1_make (by decide) ⟨Nat.le_refl _, Nat.le_refl _⟩ (Nat.le_refl _) (Nat.le_of_ble_eq_true rfl) rfl dX4_walk_12 ?_
  refine g_aload_n hX (pc := 15) (i := 0) dX4_walk_15 rfl 0 rfl ?_
  refine gf4_6 hX (pc := 16) ho0 fl_X4_44 dX4_walk_16 ?_
  refine g_aload_n hX (pc := 19) (i := 0) dX4_walk_19 rfl 0 rfl ?_
  refine gf4_3 hX (pc := 20) ho0 fl_X4_27 dX4_walk_20 ?_
  obtain ⟨r2, e_r2, h⟩ := bnd h
  refine g_callVi hX (pc := 23) (d := d + 3) hr0 [.ref t0] (c := 1) (ct_X1_distance (d := d + 2) (s4_6 ho0).1 (s4_3 ho0).1 e_r2) (s4_6 ho0).1.1.1 (s4_6 ho0).1.1.2 (by decide) rfl co_X1_distance ml_X4_163 im_X1_distance sl_X1_distance ini_X1 nm_X1_distance (by decide) ⟨Nat.le_refl _, Nat.le_refl _⟩ (Nat.le_refl _) (Nat.le_of_ble_eq_true rfl) rfl dX4_walk_23 ?_
  replace h := Option.some.inj h
  obtain ⟨rfl, rfl⟩ := Prod.mk.inj h
  exact g_ireturn hX (Nat.le_refl _) (Nat.le_refl _) dX4_walk_26
noncomputable def f_X4_cost (o0 t0 u0 : Nat) (x1 : Int32) (x2 : Int32) (I : MI) : Option (Int32 × MI) :=
  (f_X1_make (o0 + 34) t0 (o0 + 24) I).bind fun r1 =>
  (f_X1_distance (o0 + 34) t0 r1).bind fun r2 =>
  (f_X4_isInt (x1.toInt64 * ((r1 (o0 + 34) 1).toInt64))).bind fun r3 =>
  if r3 = 0 then
    some (((-2147483648), r1))
  else
    (f_X4_isInt (x2.toInt64 * r2.toInt64)).bind fun r5 =>
    if r5 = 0 then
      some (((-2147483648), r1))
    else
      (f_X4_isInt ((x1.toInt64 * ((r1 (o0 + 34) 1).toInt64)) + (x2.toInt64 * r2.toInt64))).bind fun r7 =>
      if r7 = 0 then
        some (((-2147483648), r1))
      else
        some ((((x1.toInt64 * ((r1 (o0 + 34) 1).toInt64)) + (x2.toInt64 * r2.toInt64)).toInt32, r1))
theorem nm_X4_cost : yX4_cost.cls ≠ "java/lang/invoke/MethodHandle" ∧ yX4_cost.cls ≠ "java/lang/invoke/VarHandle" ∧ (parseMethodDescriptor yX4_cost.desc).map (fun d => d.parameters.length) = some 2 := by decide +kernel
set_option maxRecDepth 100000 in
set_option maxHeartbeats 4000000 in
theorem ct_X4_cost {E : Ev} {d : Nat} {z : Sh} {J : MJ} {I : MI} {o0 t0 u0 : Nat} {x1 : Int32} {x2 : Int32} {rr : Int32} {Iz : MI} (ho0 : oX4 z o0 t0 u0) (h : f_X4_cost o0 t0 u0 x1 x2 I = some ((rr, Iz))) : Ct E (d + 4) yX4_cost cX4_cost 7 (some .int) 0 0 [.ref o0, .int x1, .int x2] z J I (some (.int rr)) z J Iz := by
  unfold f_X4_cost at h
  refine Ct.of (own := RX4) (ls := [(0, .ref o0), (1, .int x1), (2, .int x2)]) (by decide) rfl (Nat.le_of_ble_eq_true rfl) rfl ?_
  intro X hr0 hnm hX
  refine g_aload_n hX (pc := 0) (i := 0) dX4_cost_0 rfl 0 rfl ?_
  refine gf4_6 hX (pc := 1) ho0 fl_X4_44 dX4_cost_1 ?_
  refine g_aload_n hX (pc := 4) (i := 0) dX4_cost_4 rfl 0 rfl ?_
  refine gf4_3 hX (pc := 5) ho0 fl_X4_27 dX4_cost_5 ?_
  refine g_aload_n hX (pc := 8) (i := 0) dX4_cost_8 rfl 0 rfl ?_
  refine gf4_5 hX (pc := 9) ho0 fl_X4_37 dX4_cost_9 ?_
  obtain ⟨r1, e_r1, h⟩ := bnd h
  refine g_callVv hX (pc := 12) (d := d + 3) hr0 [.ref t0, .ref (o0 + 24)] (c := 1) (ct_X1_make (d := d + 0) (s4_6 ho0).1 (s4_3 ho0).1 (s4_5 ho0).1 e_r1) (s4_6 ho0).1.1.1 (s4_6 ho0).1.1.2 (by decide) rfl co_X1_make ml_X4_147 im_X1_make sl_X1_make ini_X1 nm_X1_make (by decide) ⟨Nat.le_refl _, Nat.le_refl _⟩ (Nat.le_refl _) (Nat.le_of_ble_eq_true rfl) rfl dX4_cost_12 ?_
  refine g_iload_n hX (pc := 15) (i := 1) dX4_cost_15 rfl 1 rfl ?_
  refine g_i2l hX (pc := 16) dX4_cost_16 ?_
  refine g_aload_n hX (pc := 17) (i := 0) dX4_cost_17 rfl 0 rfl ?_
  refine gf4_6 hX (pc := 18) ho0 fl_X4_44 dX4_cost_18 ?_
  refine gf1_1 hX (pc := 21) (s4_6 ho0).1 fl_X4_154 dX4_cost_21 ?_
  refine g_i2l hX (pc := 24) dX4_cost_24 ?_
  refine g_lmul hX (pc := 25) dX4_cost_25 ?_
  refine g_lstore_n hX (pc := 26) (i := 3) (ls' := [(0, .ref o0), (1, .int x1), (2, .int x2), (3, .long (x1.toInt64 * ((r1 (o0 + 34) 1).toInt64)))]) [1, 2, 3, 0] dX4_cost_26 rfl (by decide) rfl ?_
  refine g_iload_n hX (pc := 27) (i := 2) dX4_cost_27 rfl 2 rfl ?_
  refine g_i2l hX (pc := 28) dX4_cost_28 ?_
  refine g_aload_n hX (pc := 29) (i := 0) dX4_cost_29 rfl 0 rfl ?_
  refine gf4_6 hX (pc := 30) ho0 fl_X4_44 dX4_cost_30 ?_
  refine g_aload_n hX (pc := 33) (i := 0) dX4_cost_33 rfl 0 rfl ?_
  refine gf4_3 hX (pc := 34) ho0 fl_X4_27 dX4_cost_34 ?_
  obtain ⟨r2, e_r2, h⟩ := bnd h
  refine g_callVi hX (pc := 37) (d := d + 3) hr0 [.ref t0] (c := 1) (ct_X1_distance (d := d + 2) (s4_6 ho0).1 (s4_3 ho0).1 e_r2) (s4_6 ho0).1.1.1 (s4_6 ho0).1.1.2 (by decide) rfl co_X1_distance ml_X4_163 im_X1_distance sl_X1_distance ini_X1 nm_X1_distance (by decide) ⟨Nat.le_refl _, Nat.le_refl _⟩ (Nat.le_refl _) (Nat.le_of_ble_eq_true rfl) rfl dX4_cost_37 ?_
  refine g_i2l hX (pc := 40) dX4_cost_40 ?_
  refine g_lmul hX (pc := 41) dX4_cost_41 ?_
  refine g_lstore hX (pc := 42) (ls' := [(0, .ref o0), (1, .int x1), (2, .int x2), (3, .long (x1.toInt64 * ((r1 (o0 + 34) 1).toInt64))), (5, .long (x2.toInt64 * r2.toInt64))]) [1, 2, 3, 4, 0] dX4_cost_42 (by decide) rfl ?_
  refine g_lload_n hX (pc := 44) (i := 3) dX4_cost_44 rfl 3 rfl ?_
  obtain ⟨r3, e_r3, h⟩ := bnd h
  refine g_callSi hX (pc := 45) (d := d + 3) hr0 [.long (x1.toInt64 * ((r1 (o0 + 34) 1).toInt64))] (ct_X4_isInt (d := d + 3)  e_r3) co_X4_isInt ml_X4_167 sta_X4_isInt ini_X4 nm_X4_isInt (by decide) ⟨Nat.le_refl _, Nat.le_refl _⟩ (Nat.le_refl _) (Nat.le_of_ble_eq_true rfl) rfl dX4_cost_45 ?_
  refine g_if_eq hX (pc := 48) dX4_cost_48 (tgt := 69) (by decide) (fun c4 => ?_) (fun c4 => ?_)
  · replace h := ifP c4 h
    refine g_ldc hX (pc := 69) cst_X4_171 dX4_cost_69 ?_
    replace h := Option.some.inj h
    obtain ⟨rfl, rfl⟩ := Prod.mk.inj h
    exact g_ireturn hX (Nat.le_refl _) (Nat.le_refl _) dX4_cost_71
  · replace h := ifN c4 h
    refine g_lload hX (pc := 51) dX4_cost_51 4 rfl ?_
    obtain ⟨r5, e_r5, h⟩ := bnd h
    refine g_callSi hX (pc := 53) (d := d + 3) hr0 [.long (x2.toInt64 * r2.toInt64)] (ct_X4_isInt (d := d + 3)  e_r5) co_X4_isInt ml_X4_167 sta_X4_isInt ini_X4 nm_X4_isInt (by decide) ⟨Nat.le_refl _, Nat.le_refl _⟩ (Nat.le_refl _) (Nat.le_of_ble_eq_true rfl) rfl dX4_cost_53 ?_
    refine g_if_eq hX (pc := 56) dX4_cost_56 (tgt := 69) (by decide) (fun c6 => ?_) (fun c6 => ?_)
    · replace h := ifP c6 h
      refine g_ldc hX (pc := 69) cst_X4_171 dX4_cost_69 ?_
      replace h := Option.some.inj h
      obtain ⟨rfl, rfl⟩ := Prod.mk.inj h
      exact g_ireturn hX (Nat.le_refl _) (Nat.le_refl _) dX4_cost_71
    · replace h := ifN c6 h
      refine g_lload_n hX (pc := 59) (i := 3) dX4_cost_59 rfl 3 rfl ?_
      refine g_lload hX (pc := 60) dX4_cost_60 4 rfl ?_
      refine g_ladd hX (pc := 62) dX4_cost_62 ?_
      obtain ⟨r7, e_r7, h⟩ := bnd h
      refine g_callSi hX (pc := 63) (d := d + 3) hr0 [.long ((x1.toInt64 * ((r1 (o0 + 34) 1).toInt64)) + (x2.toInt64 * r2.toInt64))] (ct_X4_isInt (d := d + 3)  e_r7) co_X4_isInt ml_X4_167 sta_X4_isInt ini_X4 nm_X4_isInt (by decide) ⟨Nat.le_refl _, Nat.le_refl _⟩ (Nat.le_refl _) (Nat.le_of_ble_eq_true rfl) rfl dX4_cost_63 ?_
      refine g_if_ne hX (pc := 66) dX4_cost_66 (tgt := 72) (by decide) (fun c8 => ?_) (fun c8 => ?_)
      · replace h := ifP c8 h
        refine g_ldc hX (pc := 69) cst_X4_171 dX4_cost_69 ?_
        replace h := Option.some.inj h
        obtain ⟨rfl, rfl⟩ := Prod.mk.inj h
        exact g_ireturn hX (Nat.le_refl _) (Nat.le_refl _) dX4_cost_71
      · replace h := ifN c8 h
        refine g_lload_n hX (pc := 72) (i := 3) dX4_cost_72 rfl 3 rfl ?_
        refine g_lload hX (pc := 73) dX4_cost_73 4 rfl ?_
        refine g_ladd hX (pc := 75) dX4_cost_75 ?_
        refine g_l2i hX (pc := 76) dX4_cost_76 ?_
        replace h := Option.some.inj h
        obtain ⟨rfl, rfl⟩ := Prod.mk.inj h
        exact g_ireturn hX (Nat.le_refl _) (Nat.le_refl _) dX4_cost_77
noncomputable def f_X4_release (o0 t0 u0 : Nat) (z : Sh) (I : MI) : Option (Int32 × Sh × MI) :=
  (f_X1_make (o0 + 34) t0 (o0 + 24) I).bind fun r1 =>
  if (r1 (o0 + 34) 0) = 0 then
    some (((-1), z, r1))
  else
    (f_X4_remember o0 t0 u0 z r1).bind fun r3 =>
    (gd (zs z ≤ zs r3.1)).bind fun g4 =>
    (gd (oX4 r3.1 o0 t0 u0)).bind fun g5 =>
    (f_X0_letGo (o0 + 24) t0 (o0 + 34) r3.2).bind fun r6 =>
    (f_J6_bitCount_0f7a4 (r6 (o0 + 34) 0)).bind fun r7 =>
    some ((r7, r3.1, r6))
theorem nm_X4_release : yX4_release.cls ≠ "java/lang/invoke/MethodHandle" ∧ yX4_release.cls ≠ "java/lang/invoke/VarHandle" ∧ (parseMethodDescriptor yX4_release.desc).map (fun d => d.parameters.length) = some 0 := by decide +kernel
set_option maxRecDepth 100000 in
set_option maxHeartbeats 4000000 in
theorem ct_X4_release {E : Ev} {d : Nat} {z : Sh} {J : MJ} {I : MI} {o0 t0 u0 : Nat} {rr : Int32} {zz : Sh} {Iz : MI} (ho0 : oX4 z o0 t0 u0) (h : f_X4_release o0 t0 u0 z I = some ((rr, zz, Iz))) : Ct E (d + 4) yX4_release cX4_release 1 (some .int) 10 2127 [.ref o0] z J I (some (.int rr)) zz J Iz := by
  unfold f_X4_release at h
  refine Ct.of (own := RX4) (ls := [(0, .ref o0)]) (by decide) rfl (Nat.le_of_ble_eq_true rfl) rfl ?_
  intro X hr0 hnm hX
  refine g_aload_n hX (pc := 0) (i := 0) dX4_release_0 rfl 0 rfl ?_
  refine gf4_6 hX (pc := 1) ho0 fl_X4_44 dX4_release_1 ?_
  refine g_aload_n hX (pc := 4) (i := 0) dX4_release_4 rfl 0 rfl ?_
  refine gf4_3 hX (pc := 5) ho0 fl_X4_27 dX4_release_5 ?_
  refine g_aload_n hX (pc := 8) (i := 0) dX4_release_8 rfl 0 rfl ?_
  refine gf4_5 hX (pc := 9) ho0 fl_X4_37 dX4_release_9 ?_
  obtain ⟨r1, e_r1, h⟩ := bnd h
  refine g_callVv hX (pc := 12) (d := d + 3) hr0 [.ref t0, .ref (o0 + 24)] (c := 1) (ct_X1_make (d := d + 0) (s4_6 ho0).1 (s4_3 ho0).1 (s4_5 ho0).1 e_r1) (s4_6 ho0).1.1.1 (s4_6 ho0).1.1.2 (by decide) rfl co_X1_make ml_X4_147 im_X1_make sl_X1_make ini_X1 nm_X1_make (by decide) (by decide) (Nat.le_refl _) (Nat.le_of_ble_eq_true rfl) rfl dX4_release_12 ?_
  refine g_aload_n hX (pc := 15) (i := 0) dX4_release_15 rfl 0 rfl ?_
  refine gf4_6 hX (pc := 16) ho0 fl_X4_44 dX4_release_16 ?_
  refine gf1_0 hX (pc := 19) (s4_6 ho0).1 fl_X4_151 dX4_release_19 ?_
  refine g_if_ne hX (pc := 22) dX4_release_22 (tgt := 27) (by decide) (fun c2 => ?_) (fun c2 => ?_)
  · replace h := ifP c2 h
    refine g_iconst hX (pc := 25) (v := (-1)) dX4_release_25 (by decide) ?_
    replace h := Option.some.inj h
    obtain ⟨rfl, hT0⟩ := Prod.mk.inj h
    obtain ⟨rfl, rfl⟩ := Prod.mk.inj hT0
    exact g_ireturn hX (by decide) (by decide) dX4_release_26
  · replace h := ifN c2 h
    refine g_aload_n hX (pc := 27) (i := 0) dX4_release_27 rfl 0 rfl ?_
    obtain ⟨r3, e_r3, h⟩ := bnd h
    obtain ⟨g4, e_g4, h⟩ := bnd h
    refine g_callVv hX (pc := 28) (d := d + 3) hr0 [] (c := 4) (ct_X4_remember (d := d + 1) ho0 e_r3) ho0.1.1 ho0.1.2 (by decide) rfl co_X4_remember ml_X4_172 im_X4_remember sl_X4_remember ini_X4 nm_X4_remember (by decide) (by decide) (gd_some e_g4) (Nat.le_of_ble_eq_true rfl) rfl dX4_release_28 ?_
    obtain ⟨g5, e_g5, h⟩ := bnd h
    refine g_aload_n hX (pc := 31) (i := 0) dX4_release_31 rfl 0 rfl ?_
    refine gf4_5 hX (pc := 32) (gd_some e_g5) fl_X4_37 dX4_release_32 ?_
    refine g_aload_n hX (pc := 35) (i := 0) dX4_release_35 rfl 0 rfl ?_
    refine gf4_3 hX (pc := 36) (gd_some e_g5) fl_X4_27 dX4_release_36 ?_
    refine g_aload_n hX (pc := 39) (i := 0) dX4_release_39 rfl 0 rfl ?_
    refine gf4_6 hX (pc := 40) (gd_some e_g5) fl_X4_44 dX4_release_40 ?_
    obtain ⟨r6, e_r6, h⟩ := bnd h
    refine g_callVv hX (pc := 43) (d := d + 3) hr0 [.ref t0, .ref (o0 + 34)] (c := 0) (ct_X0_letGo (d := d + 2) (s4_5 (gd_some e_g5)).1 (s4_3 (gd_some e_g5)).1 (s4_6 (gd_some e_g5)).1 e_r6) (s4_5 (gd_some e_g5)).1.1.1 (s4_5 (gd_some e_g5)).1.1.2 (by decide) rfl co_X0_letGo ml_X4_175 im_X0_letGo sl_X0_letGo ini_X0 nm_X0_letGo (by decide) (by decide) (Nat.le_refl _) (Nat.le_of_ble_eq_true rfl) rfl dX4_release_43 ?_
    refine g_aload_n hX (pc := 46) (i := 0) dX4_release_46 rfl 0 rfl ?_
    refine gf4_6 hX (pc := 47) (gd_some e_g5) fl_X4_44 dX4_release_47 ?_
    refine gf1_0 hX (pc := 50) (s4_6 (gd_some e_g5)).1 fl_X4_151 dX4_release_50 ?_
    obtain ⟨r7, e_r7, h⟩ := bnd h
    refine g_callSi hX (pc := 53) (d := d + 3) hr0 [.int (r6 (o0 + 34) 0)] (ct_J6_bitCount_0f7a4 (d := d + 3)  e_r7) co_J6_bitCount_0f7a4 ml_X4_142 sta_J6_bitCount_0f7a4 ini_J6 nm_J6_bitCount_0f7a4 (by decide) (by decide) (Nat.le_refl _) (Nat.le_of_ble_eq_true rfl) rfl dX4_release_53 ?_
    replace h := Option.some.inj h
    obtain ⟨rfl, hT0⟩ := Prod.mk.inj h
    obtain ⟨rfl, rfl⟩ := Prod.mk.inj hT0
    exact g_ireturn hX (by decide) (by decide) dX4_release_56
noncomputable def f_X4_step (o0 t0 u0 : Nat) (x1 : Int32) (z : Sh) (I : MI) : Option (Int32 × Sh × MI) :=
  if x1 < 1 then
    some (((-1), z, I))
  else
    if 200 < x1 then
      some (((-1), z, I))
    else
      (f_X0_onBelt (o0 + 24) I).bind fun r3 =>
      if r3 = 0 then
        some (((-1), z, I))
      else
        (f_X4_remember o0 t0 u0 z I).bind fun r5 =>
        (gd (zs z ≤ zs r5.1)).bind fun g6 =>
        (gd (oX4 r5.1 o0 t0 u0)).bind fun g7 =>
        (f_X0_takeFromBelt (o0 + 24) t0 x1 r5.2).bind fun r8 =>
        some ((r8.1, r5.1, r8.2))
theorem nm_X4_step : yX4_step.cls ≠ "java/lang/invoke/MethodHandle" ∧ yX4_step.cls ≠ "java/lang/invoke/VarHandle" ∧ (parseMethodDescriptor yX4_step.desc).map (fun d => d.parameters.length) = some 1 := by decide +kernel
set_option maxRecDepth 100000 in
set_option maxHeartbeats 4000000 in
theorem ct_X4_step {E : Ev} {d : Nat} {z : Sh} {J : MJ} {I : MI} {o0 t0 u0 : Nat} {x1 : Int32} {rr : Int32} {zz : Sh} {Iz : MI} (ho0 : oX4 z o0 t0 u0) (h : f_X4_step o0 t0 u0 x1 z I = some ((rr, zz, Iz))) : Ct E (d + 6) yX4_step cX4_step 2 (some .int) 10 2127 [.ref o0, .int x1] z J I (some (.int rr)) zz J Iz := by
  unfold f_X4_step at h
  refine Ct.of (own := RX4) (ls := [(0, .ref o0), (1, .int x1)]) (by decide) rfl (Nat.le_of_ble_eq_true rfl) rfl ?_
  intro X hr0 hnm hX
  refine g_iload_n hX (pc := 0) (i := 1) dX4_step_0 rfl 1 rfl ?_
  refine g_iconst hX (pc := 1) (v := 1) dX4_step_1 (by decide) ?_
  refine g_icmp_lt hX (pc := 2) dX4_step_2 (tgt := 22) (by decide) (fun c1 => ?_) (fun c1 => ?_)
  · replace h := ifP c1 h
    refine g_iconst hX (pc := 22) (v := (-1)) dX4_step_22 (by decide) ?_
    replace h := Option.some.inj h
    obtain ⟨rfl, hT0⟩ := Prod.mk.inj h
    obtain ⟨rfl, rfl⟩ := Prod.mk.inj hT0
    exact g_ireturn hX (by decide) (by decide) dX4_step_23
  · replace h := ifN c1 h
    refine g_iload_n hX (pc := 5) (i := 1) dX4_step_5 rfl 1 rfl ?_
    refine g_sipush hX (pc := 6) (v := 200) dX4_step_6 (by decide) ?_
    refine g_icmp_gt hX (pc := 9) dX4_step_9 (tgt := 22) (by decide) (fun c2 => ?_) (fun c2 => ?_)
    · replace h := ifP c2 h
      refine g_iconst hX (pc := 22) (v := (-1)) dX4_step_22 (by decide) ?_
      replace h := Option.some.inj h
      obtain ⟨rfl, hT0⟩ := Prod.mk.inj h
      obtain ⟨rfl, rfl⟩ := Prod.mk.inj hT0
      exact g_ireturn hX (by decide) (by decide) dX4_step_23
    · replace h := ifN c2 h
      refine g_aload_n hX (pc := 12) (i := 0) dX4_step_12 rfl 0 rfl ?_
      refine gf4_5 hX (pc := 13) ho0 fl_X4_37 dX4_step_13 ?_
      obtain ⟨r3, e_r3, h⟩ := bnd h
      refine g_callVi hX (pc := 16) (d := d + 5) hr0 [] (c := 0) (ct_X0_onBelt (d := d + 5) (s4_5 ho0).1 e_r3) (s4_5 ho0).1.1.1 (s4_5 ho0).1.1.2 (by decide) rfl co_X0_onBelt ml_X4_179 im_X0_onBelt sl_X0_onBelt ini_X0 nm_X0_onBelt (by decide) (by decide) (Nat.le_refl _) (Nat.le_of_ble_eq_true rfl) rfl dX4_step_16 ?_
      refine g_if_ne hX (pc := 19) dX4_step_19 (tgt := 24) (by decide) (fun c4 => ?_) (fun c4 => ?_)
      · replace h := ifP c4 h
        refine g_iconst hX (pc := 22) (v := (-1)) dX4_step_22 (by decide) ?_
        replace h := Option.some.inj h
        obtain ⟨rfl, hT0⟩ := Prod.mk.inj h
        obtain ⟨rfl, rfl⟩ := Prod.mk.inj hT0
        exact g_ireturn hX (by decide) (by decide) dX4_step_23
      · replace h := ifN c4 h
        refine g_aload_n hX (pc := 24) (i := 0) dX4_step_24 rfl 0 rfl ?_
        obtain ⟨r5, e_r5, h⟩ := bnd h
        obtain ⟨g6, e_g6, h⟩ := bnd h
        refine g_callVv hX (pc := 25) (d := d + 5) hr0 [] (c := 4) (ct_X4_remember (d := d + 3) ho0 e_r5) ho0.1.1 ho0.1.2 (by decide) rfl co_X4_remember ml_X4_172 im_X4_remember sl_X4_remember ini_X4 nm_X4_remember (by decide) (by decide) (gd_some e_g6) (Nat.le_of_ble_eq_true rfl) rfl dX4_step_25 ?_
        obtain ⟨g7, e_g7, h⟩ := bnd h
        refine g_aload_n hX (pc := 28) (i := 0) dX4_step_28 rfl 0 rfl ?_
        refine gf4_5 hX (pc := 29) (gd_some e_g7) fl_X4_37 dX4_step_29 ?_
        refine g_aload_n hX (pc := 32) (i := 0) dX4_step_32 rfl 0 rfl ?_
        refine gf4_3 hX (pc := 33) (gd_some e_g7) fl_X4_27 dX4_step_33 ?_
        refine g_iload_n hX (pc := 36) (i := 1) dX4_step_36 rfl 1 rfl ?_
        obtain ⟨r8, e_r8, h⟩ := bnd h
        refine g_callVi hX (pc := 37) (d := d + 5) hr0 [.ref t0, .int x1] (c := 0) (ct_X0_takeFromBelt (d := d + 0) (s4_5 (gd_some e_g7)).1 (s4_3 (gd_some e_g7)).1 e_r8) (s4_5 (gd_some e_g7)).1.1.1 (s4_5 (gd_some e_g7)).1.1.2 (by decide) rfl co_X0_takeFromBelt ml_X4_183 im_X0_takeFromBelt sl_X0_takeFromBelt ini_X0 nm_X0_takeFromBelt (by decide) (by decide) (Nat.le_refl _) (Nat.le_of_ble_eq_true rfl) rfl dX4_step_37 ?_
        replace h := Option.some.inj h
        obtain ⟨rfl, hT0⟩ := Prod.mk.inj h
        obtain ⟨rfl, rfl⟩ := Prod.mk.inj hT0
        exact g_ireturn hX (by decide) (by decide) dX4_step_40
noncomputable def f_X4_by (o0 t0 u0 : Nat) (x1 : Int32) (z : Sh) (I : MI) : Option (Int32 × Sh × MI) :=
  (f_X3_isOrder t0 x1 I).bind fun r1 =>
  if r1 = 0 then
    some (((-1), z, I))
  else
    (rd 16 (I (o0 + 24 + 2)) x1).bind fun v3 =>
    if v3 = 2 then
      (f_X4_remember o0 t0 u0 z I).bind fun r5 =>
      (gd (zs z ≤ zs r5.1)).bind fun g6 =>
      (gd (oX4 r5.1 o0 t0 u0)).bind fun g7 =>
      (f_X0_putBy (o0 + 24) t0 x1 r5.2).bind fun r8 =>
      some ((r8.1, r5.1, r8.2))
    else
      some (((-1), z, I))
theorem nm_X4_by : yX4_by.cls ≠ "java/lang/invoke/MethodHandle" ∧ yX4_by.cls ≠ "java/lang/invoke/VarHandle" ∧ (parseMethodDescriptor yX4_by.desc).map (fun d => d.parameters.length) = some 1 := by decide +kernel
set_option maxRecDepth 100000 in
set_option maxHeartbeats 4000000 in
theorem ct_X4_by {E : Ev} {d : Nat} {z : Sh} {J : MJ} {I : MI} {o0 t0 u0 : Nat} {x1 : Int32} {rr : Int32} {zz : Sh} {Iz : MI} (ho0 : oX4 z o0 t0 u0) (h : f_X4_by o0 t0 u0 x1 z I = some ((rr, zz, Iz))) : Ct E (d + 6) yX4_by cX4_by 2 (some .int) 10 2127 [.ref o0, .int x1] z J I (some (.int rr)) zz J Iz := by
  unfold f_X4_by at h
  refine Ct.of (own := RX4) (ls := [(0, .ref o0), (1, .int x1)]) (by decide) rfl (Nat.le_of_ble_eq_true rfl) rfl ?_
  intro X hr0 hnm hX
  refine g_aload_n hX (pc := 0) (i := 0) dX4_by_0 rfl 0 rfl ?_
  refine gf4_3 hX (pc := 1) ho0 fl_X4_27 dX4_by_1 ?_
  refine g_iload_n hX (pc := 4) (i := 1) dX4_by_4 rfl 1 rfl ?_
  obtain ⟨r1, e_r1, h⟩ := bnd h
  refine g_callVi hX (pc := 5) (d := d + 5) hr0 [.int x1] (c := 3) (ct_X3_isOrder (d := d + 5) (s4_3 ho0).1 e_r1) (s4_3 ho0).1.1.1 (s4_3 ho0).1.1.2 (by decide) rfl co_X3_isOrder ml_X4_98 im_X3_isOrder sl_X3_isOrder ini_X3 nm_X3_isOrder (by decide) (by decide) (Nat.le_refl _) (Nat.le_of_ble_eq_true rfl) rfl dX4_by_5 ?_
  refine g_if_eq hX (pc := 8) dX4_by_8 (tgt := 24) (by decide) (fun c2 => ?_) (fun c2 => ?_)
  · replace h := ifP c2 h
    refine g_iconst hX (pc := 24) (v := (-1)) dX4_by_24 (by decide) ?_
    replace h := Option.some.inj h
    obtain ⟨rfl, hT0⟩ := Prod.mk.inj h
    obtain ⟨rfl, rfl⟩ := Prod.mk.inj hT0
    exact g_ireturn hX (by decide) (by decide) dX4_by_25
  · replace h := ifN c2 h
    refine g_aload_n hX (pc := 11) (i := 0) dX4_by_11 rfl 0 rfl ?_
    refine gf4_5 hX (pc := 12) ho0 fl_X4_37 dX4_by_12 ?_
    refine gf0_1 hX (pc := 15) (s4_5 ho0).1 fl_X4_124 dX4_by_15 ?_
    refine g_iload_n hX (pc := 18) (i := 1) dX4_by_18 rfl 1 rfl ?_
    obtain ⟨v3, e_v3, h⟩ := bnd h
    refine g_ialoadE hX (pc := 19) (s0_1 (s4_5 ho0).1).1 (s0_1 (s4_5 ho0).1).2.1 (s0_1 (s4_5 ho0).1).2.2.1 e_v3 dX4_by_19 ?_
    refine g_iconst hX (pc := 20) (v := 2) dX4_by_20 (by decide) ?_
    refine g_icmp_eq hX (pc := 21) dX4_by_21 (tgt := 26) (by decide) (fun c4 => ?_) (fun c4 => ?_)
    · replace h := ifP c4 h
      refine g_aload_n hX (pc := 26) (i := 0) dX4_by_26 rfl 0 rfl ?_
      obtain ⟨r5, e_r5, h⟩ := bnd h
      obtain ⟨g6, e_g6, h⟩ := bnd h
      refine g_callVv hX (pc := 27) (d := d + 5) hr0 [] (c := 4) (ct_X4_remember (d := d + 3) ho0 e_r5) ho0.1.1 ho0.1.2 (by decide) rfl co_X4_remember ml_X4_172 im_X4_remember sl_X4_remember ini_X4 nm_X4_remember (by decide) (by decide) (gd_some e_g6) (Nat.le_of_ble_eq_true rfl) rfl dX4_by_27 ?_
      obtain ⟨g7, e_g7, h⟩ := bnd h
      refine g_aload_n hX (pc := 30) (i := 0) dX4_by_30 rfl 0 rfl ?_
      refine gf4_5 hX (pc := 31) (gd_some e_g7) fl_X4_37 dX4_by_31 ?_
      refine g_aload_n hX (pc := 34) (i := 0) dX4_by_34 rfl 0 rfl ?_
      refine gf4_3 hX (pc := 35) (gd_some e_g7) fl_X4_27 dX4_by_35 ?_
      refine g_iload_n hX (pc := 38) (i := 1) dX4_by_38 rfl 1 rfl ?_
      obtain ⟨r8, e_r8, h⟩ := bnd h
      refine g_callVi hX (pc := 39) (d := d + 5) hr0 [.ref t0, .int x1] (c := 0) (ct_X0_putBy (d := d + 0) (s4_5 (gd_some e_g7)).1 (s4_3 (gd_some e_g7)).1 e_r8) (s4_5 (gd_some e_g7)).1.1.1 (s4_5 (gd_some e_g7)).1.1.2 (by decide) rfl co_X0_putBy ml_X4_191 im_X0_putBy sl_X0_putBy ini_X0 nm_X0_putBy (by decide) (by decide) (Nat.le_refl _) (Nat.le_of_ble_eq_true rfl) rfl dX4_by_39 ?_
      replace h := Option.some.inj h
      obtain ⟨rfl, hT0⟩ := Prod.mk.inj h
      obtain ⟨rfl, rfl⟩ := Prod.mk.inj hT0
      exact g_ireturn hX (by decide) (by decide) dX4_by_42
    · replace h := ifN c4 h
      refine g_iconst hX (pc := 24) (v := (-1)) dX4_by_24 (by decide) ?_
      replace h := Option.some.inj h
      obtain ⟨rfl, hT0⟩ := Prod.mk.inj h
      obtain ⟨rfl, rfl⟩ := Prod.mk.inj hT0
      exact g_ireturn hX (by decide) (by decide) dX4_by_25
noncomputable def f_X4_needs (o0 t0 u0 : Nat) (I : MI) : Option (Int32 × MI) :=
  (f_X1_make (o0 + 34) t0 (o0 + 24) I).bind fun r1 =>
  (f_X1_needsAsPicked (o0 + 34) t0 r1).bind fun r2 =>
  some ((r2, r1))
theorem nm_X4_needs : yX4_needs.cls ≠ "java/lang/invoke/MethodHandle" ∧ yX4_needs.cls ≠ "java/lang/invoke/VarHandle" ∧ (parseMethodDescriptor yX4_needs.desc).map (fun d => d.parameters.length) = some 0 := by decide +kernel
set_option maxRecDepth 100000 in
set_option maxHeartbeats 4000000 in
theorem ct_X4_needs {E : Ev} {d : Nat} {z : Sh} {J : MJ} {I : MI} {o0 t0 u0 : Nat} {rr : Int32} {Iz : MI} (ho0 : oX4 z o0 t0 u0) (h : f_X4_needs o0 t0 u0 I = some ((rr, Iz))) : Ct E (d + 4) yX4_needs cX4_needs 1 (some .int) 0 0 [.ref o0] z J I (some (.int rr)) z J Iz := by
  unfold f_X4_needs at h
  refine Ct.of (own := RX4) (ls := [(0, .ref o0)]) (by decide) rfl (Nat.le_of_ble_eq_true rfl) rfl ?_
  intro X hr0 hnm hX
  refine g_aload_n hX (pc := 0) (i := 0) dX4_needs_0 rfl 0 rfl ?_
  refine gf4_6 hX (pc := 1) ho0 fl_X4_44 dX4_needs_1 ?_
  refine g_aload_n hX (pc := 4) (i := 0) dX4_needs_4 rfl 0 rfl ?_
  refine gf4_3 hX (pc := 5) ho0 fl_X4_27 dX4_needs_5 ?_
  refine g_aload_n hX (pc := 8) (i := 0) dX4_needs_8 rfl 0 rfl ?_
  refine gf4_5 hX (pc := 9) ho0 fl_X4_37 dX4_needs_9 ?_
  obtain ⟨r1, e_r1, h⟩ := bnd h
  refine g_callVv hX (pc := 12) (d := d + 3) hr0 [.ref t0, .ref (o0 + 24)] (c := 1) (ct_X1_make (d := d + 0) (s4_6 ho0).1 (s4_3 ho0).1 (s4_5 ho0).1 e_r1) (s4_6 ho0).1.1.1 (s4_6 ho0).1.1.2 (by decide) rfl co_X1_make ml_X4_147 im_X1_make sl_X1_make ini_X1 nm_X1_make (by decide) ⟨Nat.le_refl _, Nat.le_refl _⟩ (Nat.le_refl _) (Nat.le_of_ble_eq_true rfl) rfl dX4_needs_12 ?_
  refine g_aload_n hX (pc := 15) (i := 0) dX4_needs_15 rfl 0 rfl ?_
  refine gf4_6 hX (pc := 16) ho0 fl_X4_44 dX4_needs_16 ?_
  refine g_aload_n hX (pc := 19) (i := 0) dX4_needs_19 rfl 0 rfl ?_
  refine gf4_3 hX (pc := 20) ho0 fl_X4_27 dX4_needs_20 ?_
  obtain ⟨r2, e_r2, h⟩ := bnd h
  refine g_callVi hX (pc := 23) (d := d + 3) hr0 [.ref t0] (c := 1) (ct_X1_needsAsPicked (d := d + 0) (s4_6 ho0).1 (s4_3 ho0).1 e_r2) (s4_6 ho0).1.1.1 (s4_6 ho0).1.1.2 (by decide) rfl co_X1_needsAsPicked ml_X4_226 im_X1_needsAsPicked sl_X1_needsAsPicked ini_X1 nm_X1_needsAsPicked (by decide) ⟨Nat.le_refl _, Nat.le_refl _⟩ (Nat.le_refl _) (Nat.le_of_ble_eq_true rfl) rfl dX4_needs_23 ?_
  replace h := Option.some.inj h
  obtain ⟨rfl, rfl⟩ := Prod.mk.inj h
  exact g_ireturn hX (Nat.le_refl _) (Nat.le_refl _) dX4_needs_26
noncomputable def f_X4_best (o0 t0 u0 : Nat) (x1 : Int32) (I : MI) : Option (Int32 × MI) :=
  (f_X1_make (o0 + 34) t0 (o0 + 24) I).bind fun r1 =>
  if 6 < (r1 (o0 + 34) 1) then
    some (((-2), r1))
  else
    if (r1 (o0 + 34) 1) = 0 then
      some (((-1), r1))
    else
      if x1 < 0 then
        some (((-1), r1))
      else
        if (r1 (o0 + 34) 1) < x1 then
          some (((-1), r1))
        else
          (f_X1_findBest (o0 + 34) t0 r1).bind fun r6 =>
          (if x1 = 0 then
            some r6.1
          else
            (rd 6 (r6.2 (o0 + 34 + 4)) (x1 - 1)).bind fun v9 =>
            some v9).bind fun (p10 : Int32) =>
          some ((p10, r6.2))
theorem nm_X4_best : yX4_best.cls ≠ "java/lang/invoke/MethodHandle" ∧ yX4_best.cls ≠ "java/lang/invoke/VarHandle" ∧ (parseMethodDescriptor yX4_best.desc).map (fun d => d.parameters.length) = some 1 := by decide +kernel
set_option maxRecDepth 100000 in
set_option maxHeartbeats 4000000 in
theorem ct_X4_best {E : Ev} {d : Nat} {z : Sh} {J : MJ} {I : MI} {o0 t0 u0 : Nat} {x1 : Int32} {rr : Int32} {Iz : MI} (ho0 : oX4 z o0 t0 u0) (h : f_X4_best o0 t0 u0 x1 I = some ((rr, Iz))) : Ct E (d + 6) yX4_best cX4_best 3 (some .int) 0 0 [.ref o0, .int x1] z J I (some (.int rr)) z J Iz := by
  unfold f_X4_best at h
  refine Ct.of (own := RX4) (ls := [(0, .ref o0), (1, .int x1)]) (by decide) rfl (Nat.le_of_ble_eq_true rfl) rfl ?_
  intro X hr0 hnm hX
  refine g_aload_n hX (pc := 0) (i := 0) dX4_best_0 rfl 0 rfl ?_
  refine gf4_6 hX (pc := 1) ho0 fl_X4_44 dX4_best_1 ?_
  refine g_aload_n hX (pc := 4) (i := 0) dX4_best_4 rfl 0 rfl ?_
  refine gf4_3 hX (pc := 5) ho0 fl_X4_27 dX4_best_5 ?_
  refine g_aload_n hX (pc := 8) (i := 0) dX4_best_8 rfl 0 rfl ?_
  refine gf4_5 hX (pc := 9) ho0 fl_X4_37 dX4_best_9 ?_
  obtain ⟨r1, e_r1, h⟩ := bnd h
  refine g_callVv hX (pc := 12) (d := d + 5) hr0 [.ref t0, .ref (o0 + 24)] (c := 1) (ct_X1_make (d := d + 2) (s4_6 ho0).1 (s4_3 ho0).1 (s4_5 ho0).1 e_r1) (s4_6 ho0).1.1.1 (s4_6 ho0).1.1.2 (by decide) rfl co_X1_make ml_X4_147 im_X1_make sl_X1_make ini_X1 nm_X1_make (by decide) ⟨Nat.le_refl _, Nat.le_refl _⟩ (Nat.le_refl _) (Nat.le_of_ble_eq_true rfl) rfl dX4_best_12 ?_
  refine g_aload_n hX (pc := 15) (i := 0) dX4_best_15 rfl 0 rfl ?_
  refine gf4_6 hX (pc := 16) ho0 fl_X4_44 dX4_best_16 ?_
  refine gf1_1 hX (pc := 19) (s4_6 ho0).1 fl_X4_154 dX4_best_19 ?_
  refine g_bipush hX (pc := 22) (v := 6) dX4_best_22 (by decide) ?_
  refine g_icmp_le hX (pc := 24) dX4_best_24 (tgt := 30) (by decide) (fun c2 => ?_) (fun c2 => ?_)
  · replace h := ifP c2 h
    refine g_bipush hX (pc := 27) (v := (-2)) dX4_best_27 (by decide) ?_
    replace h := Option.some.inj h
    obtain ⟨rfl, rfl⟩ := Prod.mk.inj h
    exact g_ireturn hX (Nat.le_refl _) (Nat.le_refl _) dX4_best_29
  · replace h := ifN c2 h
    refine g_aload_n hX (pc := 30) (i := 0) dX4_best_30 rfl 0 rfl ?_
    refine gf4_6 hX (pc := 31) ho0 fl_X4_44 dX4_best_31 ?_
    refine gf1_1 hX (pc := 34) (s4_6 ho0).1 fl_X4_154 dX4_best_34 ?_
    refine g_if_eq hX (pc := 37) dX4_best_37 (tgt := 55) (by decide) (fun c3 => ?_) (fun c3 => ?_)
    · replace h := ifP c3 h
      refine g_iconst hX (pc := 55) (v := (-1)) dX4_best_55 (by decide) ?_
      replace h := Option.some.inj h
      obtain ⟨rfl, rfl⟩ := Prod.mk.inj h
      exact g_ireturn hX (Nat.le_refl _) (Nat.le_refl _) dX4_best_56
    · replace h := ifN c3 h
      refine g_iload_n hX (pc := 40) (i := 1) dX4_best_40 rfl 1 rfl ?_
      refine g_if_lt hX (pc := 41) dX4_best_41 (tgt := 55) (by decide) (fun c4 => ?_) (fun c4 => ?_)
      · replace h := ifP c4 h
        refine g_iconst hX (pc := 55) (v := (-1)) dX4_best_55 (by decide) ?_
        replace h := Option.some.inj h
        obtain ⟨rfl, rfl⟩ := Prod.mk.inj h
        exact g_ireturn hX (Nat.le_refl _) (Nat.le_refl _) dX4_best_56
      · replace h := ifN c4 h
        refine g_iload_n hX (pc := 44) (i := 1) dX4_best_44 rfl 1 rfl ?_
        refine g_aload_n hX (pc := 45) (i := 0) dX4_best_45 rfl 0 rfl ?_
        refine gf4_6 hX (pc := 46) ho0 fl_X4_44 dX4_best_46 ?_
        refine gf1_1 hX (pc := 49) (s4_6 ho0).1 fl_X4_154 dX4_best_49 ?_
        refine g_icmp_le hX (pc := 52) dX4_best_52 (tgt := 57) (by decide) (fun c5 => ?_) (fun c5 => ?_)
        · replace h := ifP c5 h
          refine g_iconst hX (pc := 55) (v := (-1)) dX4_best_55 (by decide) ?_
          replace h := Option.some.inj h
          obtain ⟨rfl, rfl⟩ := Prod.mk.inj h
          exact g_ireturn hX (Nat.le_refl _) (Nat.le_refl _) dX4_best_56
        · replace h := ifN c5 h
          refine g_aload_n hX (pc := 57) (i := 0) dX4_best_57 rfl 0 rfl ?_
          refine gf4_6 hX (pc := 58) ho0 fl_X4_44 dX4_best_58 ?_
          refine g_aload_n hX (pc := 61) (i := 0) dX4_best_61 rfl 0 rfl ?_
          refine gf4_3 hX (pc := 62) ho0 fl_X4_27 dX4_best_62 ?_
          obtain ⟨r6, e_r6, h⟩ := bnd h
          refine g_callVi hX (pc := 65) (d := d + 5) hr0 [.ref t0] (c := 1) (ct_X1_findBest (d := d + 0) (s4_6 ho0).1 (s4_3 ho0).1 e_r6) (s4_6 ho0).1.1.1 (s4_6 ho0).1.1.2 (by decide) rfl co_X1_findBest ml_X4_229 im_X1_findBest sl_X1_findBest ini_X1 nm_X1_findBest (by decide) ⟨Nat.le_refl _, Nat.le_refl _⟩ (Nat.le_refl _) (Nat.le_of_ble_eq_true rfl) rfl dX4_best_65 ?_
          refine g_istore_n hX (pc := 68) (i := 2) (ls' := [(0, .ref o0), (1, .int x1), (2, .int r6.1)]) [1, 2, 0] dX4_best_68 rfl (by decide) rfl ?_
          refine g_iload_n hX (pc := 69) (i := 1) dX4_best_69 rfl 1 rfl ?_
          obtain ⟨p10, hpj8, h⟩ := bnd h
          have Kj8 : ∀ qj8 : Int32, qj8 = p10 → GW E X (QX E X 0 0 (some (.int rr)) z J Iz) 3 88 [(0, .ref o0), (1, .int x1), (2, .int r6.1)] [.int qj8] z J r6.2 0 0 := by
            intro qj8 hqj8
            subst hqj8
            replace h := Option.some.inj h
            obtain ⟨rfl, rfl⟩ := Prod.mk.inj h
            exact g_ireturn hX (Nat.le_refl _) (Nat.le_refl _) dX4_best_88
          replace h := hpj8
          clear hpj8
          refine g_if_ne hX (pc := 70) dX4_best_70 (tgt := 77) (by decide) (fun c7 => ?_) (fun c7 => ?_)
          · replace h := ifP c7 h
            refine g_iload_n hX (pc := 73) (i := 2) dX4_best_73 rfl 2 rfl ?_
            refine g_goto hX (pc := 74) (tgt := 88) dX4_best_74 (by decide) ?_
            exact Kj8 r6.1 (Option.some.inj h)
          · replace h := ifN c7 h
            refine g_aload_n hX (pc := 77) (i := 0) dX4_best_77 rfl 0 rfl ?_
            refine gf4_6 hX (pc := 78) ho0 fl_X4_44 dX4_best_78 ?_
            refine gf1_5 hX (pc := 81) (s4_6 ho0).1 fl_X4_232 dX4_best_81 ?_
            refine g_iload_n hX (pc := 84) (i := 1) dX4_best_84 rfl 1 rfl ?_
            refine g_iconst hX (pc := 85) (v := 1) dX4_best_85 (by decide) ?_
            refine g_isub hX (pc := 86) dX4_best_86 ?_
            obtain ⟨v9, e_v9, h⟩ := bnd h
            refine g_ialoadE hX (pc := 87) (s1_5 (s4_6 ho0).1).1 (s1_5 (s4_6 ho0).1).2.1 (s1_5 (s4_6 ho0).1).2.2.1 e_v9 dX4_best_87 ?_
            exact Kj8 v9 (Option.some.inj h)
noncomputable def f_X4_sizes (o0 t0 u0 : Nat) (x1 : Int32) (x2 : Int32) (I : MI) : Option (Int32) :=
  if x1 < 1 then
    some ((-1))
  else
    if 8 < x1 then
      some ((-1))
    else
      if x2 < 0 then
        some ((-1))
      else
        if 1 < x2 then
          some ((-1))
        else
          (if x2 = 0 then
            (f_X4_wavesOfSize o0 t0 u0 x1 I).bind fun r7 =>
            some r7
          else
            (f_X4_picksOfSize o0 t0 u0 x1 I).bind fun r8 =>
            some r8).bind fun (p9 : Int32) =>
          some p9
theorem nm_X4_sizes : yX4_sizes.cls ≠ "java/lang/invoke/MethodHandle" ∧ yX4_sizes.cls ≠ "java/lang/invoke/VarHandle" ∧ (parseMethodDescriptor yX4_sizes.desc).map (fun d => d.parameters.length) = some 2 := by decide +kernel
set_option maxRecDepth 100000 in
set_option maxHeartbeats 4000000 in
theorem ct_X4_sizes {E : Ev} {d : Nat} {z : Sh} {J : MJ} {I : MI} {o0 t0 u0 : Nat} {x1 : Int32} {x2 : Int32} {rr : Int32} (ho0 : oX4 z o0 t0 u0) (h : f_X4_sizes o0 t0 u0 x1 x2 I = some rr) : Ct E (d + 4) yX4_sizes cX4_sizes 3 (some .int) 0 0 [.ref o0, .int x1, .int x2] z J I (some (.int rr)) z J I := by
  unfold f_X4_sizes at h
  refine Ct.of (own := RX4) (ls := [(0, .ref o0), (1, .int x1), (2, .int x2)]) (by decide) rfl (Nat.le_of_ble_eq_true rfl) rfl ?_
  intro X hr0 hnm hX
  refine g_iload_n hX (pc := 0) (i := 1) dX4_sizes_0 rfl 1 rfl ?_
  refine g_iconst hX (pc := 1) (v := 1) dX4_sizes_1 (by decide) ?_
  refine g_icmp_lt hX (pc := 2) dX4_sizes_2 (tgt := 20) (by decide) (fun c1 => ?_) (fun c1 => ?_)
  · replace h := ifP c1 h
    refine g_iconst hX (pc := 20) (v := (-1)) dX4_sizes_20 (by decide) ?_
    obtain rfl := Option.some.inj h
    exact g_ireturn hX (Nat.le_refl _) (Nat.le_refl _) dX4_sizes_21
  · replace h := ifN c1 h
    refine g_iload_n hX (pc := 5) (i := 1) dX4_sizes_5 rfl 1 rfl ?_
    refine g_bipush hX (pc := 6) (v := 8) dX4_sizes_6 (by decide) ?_
    refine g_icmp_gt hX (pc := 8) dX4_sizes_8 (tgt := 20) (by decide) (fun c2 => ?_) (fun c2 => ?_)
    · replace h := ifP c2 h
      refine g_iconst hX (pc := 20) (v := (-1)) dX4_sizes_20 (by decide) ?_
      obtain rfl := Option.some.inj h
      exact g_ireturn hX (Nat.le_refl _) (Nat.le_refl _) dX4_sizes_21
    · replace h := ifN c2 h
      refine g_iload_n hX (pc := 11) (i := 2) dX4_sizes_11 rfl 2 rfl ?_
      refine g_if_lt hX (pc := 12) dX4_sizes_12 (tgt := 20) (by decide) (fun c3 => ?_) (fun c3 => ?_)
      · replace h := ifP c3 h
        refine g_iconst hX (pc := 20) (v := (-1)) dX4_sizes_20 (by decide) ?_
        obtain rfl := Option.some.inj h
        exact g_ireturn hX (Nat.le_refl _) (Nat.le_refl _) dX4_sizes_21
      · replace h := ifN c3 h
        refine g_iload_n hX (pc := 15) (i := 2) dX4_sizes_15 rfl 2 rfl ?_
        refine g_iconst hX (pc := 16) (v := 1) dX4_sizes_16 (by decide) ?_
        refine g_icmp_le hX (pc := 17) dX4_sizes_17 (tgt := 22) (by decide) (fun c4 => ?_) (fun c4 => ?_)
        · replace h := ifP c4 h
          refine g_iconst hX (pc := 20) (v := (-1)) dX4_sizes_20 (by decide) ?_
          obtain rfl := Option.some.inj h
          exact g_ireturn hX (Nat.le_refl _) (Nat.le_refl _) dX4_sizes_21
        · replace h := ifN c4 h
          refine g_iload_n hX (pc := 22) (i := 2) dX4_sizes_22 rfl 2 rfl ?_
          obtain ⟨p9, hpj6, h⟩ := bnd h
          have Kj6 : ∀ qj6 : Int32, qj6 = p9 → GW E X (QX E X 0 0 (some (.int rr)) z J I) 3 39 [(0, .ref o0), (1, .int x1), (2, .int x2)] [.int qj6] z J I 0 0 := by
            intro qj6 hqj6
            subst hqj6
            obtain rfl := Option.some.inj h
            exact g_ireturn hX (Nat.le_refl _) (Nat.le_refl _) dX4_sizes_39
          replace h := hpj6
          clear hpj6
          refine g_if_ne hX (pc := 23) dX4_sizes_23 (tgt := 34) (by decide) (fun c5 => ?_) (fun c5 => ?_)
          · replace h := ifP c5 h
            refine g_aload_n hX (pc := 26) (i := 0) dX4_sizes_26 rfl 0 rfl ?_
            refine g_iload_n hX (pc := 27) (i := 1) dX4_sizes_27 rfl 1 rfl ?_
            obtain ⟨r7, e_r7, h⟩ := bnd h
            refine g_callVi hX (pc := 28) (d := d + 3) hr0 [.int x1] (c := 4) (ct_X4_wavesOfSize (d := d + 0) ho0 e_r7) ho0.1.1 ho0.1.2 (by decide) rfl co_X4_wavesOfSize ml_X4_235 im_X4_wavesOfSize sl_X4_wavesOfSize ini_X4 nm_X4_wavesOfSize (by decide) ⟨Nat.le_refl _, Nat.le_refl _⟩ (Nat.le_refl _) (Nat.le_of_ble_eq_true rfl) rfl dX4_sizes_28 ?_
            refine g_goto hX (pc := 31) (tgt := 39) dX4_sizes_31 (by decide) ?_
            exact Kj6 r7 (Option.some.inj h)
          · replace h := ifN c5 h
            refine g_aload_n hX (pc := 34) (i := 0) dX4_sizes_34 rfl 0 rfl ?_
            refine g_iload_n hX (pc := 35) (i := 1) dX4_sizes_35 rfl 1 rfl ?_
            obtain ⟨r8, e_r8, h⟩ := bnd h
            refine g_callVi hX (pc := 36) (d := d + 3) hr0 [.int x1] (c := 4) (ct_X4_picksOfSize (d := d + 0) ho0 e_r8) ho0.1.1 ho0.1.2 (by decide) rfl co_X4_picksOfSize ml_X4_238 im_X4_picksOfSize sl_X4_picksOfSize ini_X4 nm_X4_picksOfSize (by decide) ⟨Nat.le_refl _, Nat.le_refl _⟩ (Nat.le_refl _) (Nat.le_of_ble_eq_true rfl) rfl dX4_sizes_36 ?_
            exact Kj6 r8 (Option.some.inj h)
noncomputable def b_X4_bestSize_10 (o0 : Nat) (t0 : Nat) (u0 : Nat) (I : MI) (s : Int32 × Int32 × Int32) : Option ((Int32 × Int32 × Int32) ⊕ (Int32 × Int32 × Int32)) :=
  if 8 < s.2.2 then
    some (.inr ((s.1, s.2.1, s.2.2)))
  else
    (f_X4_picksOfSize o0 t0 u0 s.2.2 I).bind fun r7 =>
    (if r7 < s.2.1 then
      some ((s.2.2, r7))
    else
      some ((s.1, s.2.1))).bind fun (p10 : Int32 × Int32) =>
    some (.inl ((p10.1, p10.2, s.2.2 + 1)))
noncomputable def f_X4_bestSize (o0 t0 u0 : Nat) (I : MI) : Option (Int32) :=
  (f_X4_picksOfSize o0 t0 u0 1 I).bind fun r1 =>
  (lp (b_X4_bestSize_10 o0 t0 u0 I) ((1, r1, 2))).bind fun p11 =>
  some p11.1
theorem nm_X4_bestSize : yX4_bestSize.cls ≠ "java/lang/invoke/MethodHandle" ∧ yX4_bestSize.cls ≠ "java/lang/invoke/VarHandle" ∧ (parseMethodDescriptor yX4_bestSize.desc).map (fun d => d.parameters.length) = some 0 := by decide +kernel
set_option maxRecDepth 100000 in
set_option maxHeartbeats 4000000 in
theorem ct_X4_bestSize {E : Ev} {d : Nat} {z : Sh} {J : MJ} {I : MI} {o0 t0 u0 : Nat} {rr : Int32} (ho0 : oX4 z o0 t0 u0) (h : f_X4_bestSize o0 t0 u0 I = some rr) : Ct E (d + 4) yX4_bestSize cX4_bestSize 5 (some .int) 0 0 [.ref o0] z J I (some (.int rr)) z J I := by
  unfold f_X4_bestSize at h
  refine Ct.of (own := RX4) (ls := [(0, .ref o0)]) (by decide) rfl (Nat.le_of_ble_eq_true rfl) rfl ?_
  intro X hr0 hnm hX
  refine g_iconst hX (pc := 0) (v := 1) dX4_bestSize_0 (by decide) ?_
  refine g_istore_n hX (pc := 1) (i := 1) (ls' := [(0, .ref o0), (1, .int 1)]) [1, 0] dX4_bestSize_1 rfl (by decide) rfl ?_
  refine g_aload_n hX (pc := 2) (i := 0) dX4_bestSize_2 rfl 0 rfl ?_
  refine g_iload_n hX (pc := 3) (i := 1) dX4_bestSize_3 rfl 1 rfl ?_
  obtain ⟨r1, e_r1, h⟩ := bnd h
  refine g_callVi hX (pc := 4) (d := d + 3) hr0 [.int 1] (c := 4) (ct_X4_picksOfSize (d := d + 0) ho0 e_r1) ho0.1.1 ho0.1.2 (by decide) rfl co_X4_picksOfSize ml_X4_238 im_X4_picksOfSize sl_X4_picksOfSize ini_X4 nm_X4_picksOfSize (by decide) ⟨Nat.le_refl _, Nat.le_refl _⟩ (Nat.le_refl _) (Nat.le_of_ble_eq_true rfl) rfl dX4_bestSize_4 ?_
  refine g_istore_n hX (pc := 7) (i := 2) (ls' := [(0, .ref o0), (1, .int 1), (2, .int r1)]) [1, 2, 0] dX4_bestSize_7 rfl (by decide) rfl ?_
  refine g_iconst hX (pc := 8) (v := 2) dX4_bestSize_8 (by decide) ?_
  refine g_istore_n hX (pc := 9) (i := 3) (ls' := [(0, .ref o0), (1, .int 1), (2, .int r1), (3, .int 2)]) [1, 2, 3, 0] dX4_bestSize_9 rfl (by decide) rfl ?_
  obtain ⟨p11, hpl5, h⟩ := bnd h
  have Kl5 : ∀ ql5 : Int32 × Int32 × Int32, ql5 = p11 → GW E X (QX E X 0 0 (some (.int rr)) z J I) 5 40 [(0, .ref o0), (1, .int ql5.1), (2, .int ql5.2.1), (3, .int ql5.2.2)] [] z J I 0 0 := by
    intro ql5 hql5
    subst hql5
    refine g_iload_n hX (pc := 40) (i := 1) dX4_bestSize_40 rfl 1 rfl ?_
    obtain rfl := Option.some.inj h
    exact g_ireturn hX (Nat.le_refl _) (Nat.le_refl _) dX4_bestSize_41
  obtain ⟨kl5, hkl5⟩ := lp_ex hpl5
  clear hpl5 h
  have Ll5 : ∀ k : Nat, ∀ (s2 : Int32) (s3 : Int32) (s4 : Int32), lpN k (b_X4_bestSize_10 o0 t0 u0 I) ((s2, s3, s4)) = some p11 → GW E X (QX E X 0 0 (some (.int rr)) z J I) 5 10 [(0, .ref o0), (1, .int s2), (2, .int s3), (3, .int s4)] [] z J I 0 0 := by
    intro k
    induction k with
    | zero => intro s2 s3 s4 h; cases h
    | succ k ihl5 =>
      intro s2 s3 s4 h
      obtain ⟨wl5, h, hwl5⟩ := lpN_s h
      unfold b_X4_bestSize_10 at h
      try dsimp only at h
      refine g_iload_n hX (pc := 10) (i := 3) dX4_bestSize_10 rfl 3 rfl ?_
      refine g_bipush hX (pc := 11) (v := 8) dX4_bestSize_11 (by decide) ?_
      refine g_icmp_gt hX (pc := 13) dX4_bestSize_13 (tgt := 40) (by decide) (fun c6 => ?_) (fun c6 => ?_)
      · replace h := ifP c6 h
        obtain rfl := Option.some.inj h
        exact Kl5 ((s2, s3, s4)) hwl5
      · replace h := ifN c6 h
        refine g_aload_n hX (pc := 16) (i := 0) dX4_bestSize_16 rfl 0 rfl ?_
        refine g_iload_n hX (pc := 17) (i := 3) dX4_bestSize_17 rfl 3 rfl ?_
        obtain ⟨r7, e_r7, h⟩ := bnd h
        refine g_callVi hX (pc := 18) (d := d + 3) hr0 [.int s4] (c := 4) (ct_X4_picksOfSize (d := d + 0) ho0 e_r7) ho0.1.1 ho0.1.2 (by decide) rfl co_X4_picksOfSize ml_X4_238 im_X4_picksOfSize sl_X4_picksOfSize ini_X4 nm_X4_picksOfSize (by decide) ⟨Nat.le_refl _, Nat.le_refl _⟩ (Nat.le_refl _) (Nat.le_of_ble_eq_true rfl) rfl dX4_bestSize_18 ?_
        refine g_istore hX (pc := 21) (ls' := [(0, .ref o0), (1, .int s2), (2, .int s3), (3, .int s4), (4, .int r7)]) [1, 2, 3, 4, 0] dX4_bestSize_21 (by decide) rfl ?_
        refine g_iload hX (pc := 23) dX4_bestSize_23 4 rfl ?_
        refine g_iload_n hX (pc := 25) (i := 2) dX4_bestSize_25 rfl 2 rfl ?_
        obtain ⟨p10, hpj9, h⟩ := bnd h
        have Kj9 : ∀ qj9 : Int32 × Int32, qj9 = p10 → GW E X (QX E X 0 0 (some (.int rr)) z J I) 5 34 [(0, .ref o0), (1, .int qj9.1), (2, .int qj9.2), (3, .int s4), (4, .int r7)] [] z J I 0 0 := by
          intro qj9 hqj9
          subst hqj9
          refine g_iinc hX (pc := 34) (i := 3) (v := s4 + 1) (ls' := [(0, .ref o0), (1, .int qj9.1), (2, .int qj9.2), (3, .int (s4 + 1)), (4, .int r7)]) 3 [1, 2, 3, 0, 4] dX4_bestSize_34 rfl (by rfl) (by decide) rfl ?_
          refine g_goto hX (pc := 37) (tgt := 10) dX4_bestSize_37 (by decide) ?_
          refine g_sub (ls' := [(0, .ref o0), (1, .int qj9.1), (2, .int qj9.2), (3, .int (s4 + 1))]) [0, 1, 2, 3] rfl ?_
          obtain rfl := Option.some.inj h
          exact ihl5 qj9.1 qj9.2 (s4 + 1) hwl5
        replace h := hpj9
        clear hpj9
        refine g_icmp_ge hX (pc := 26) dX4_bestSize_26 (tgt := 34) (by decide) (fun c8 => ?_) (fun c8 => ?_)
        · replace h := ifP c8 h
          refine g_iload hX (pc := 29) dX4_bestSize_29 4 rfl ?_
          refine g_istore_n hX (pc := 31) (i := 2) (ls' := [(0, .ref o0), (1, .int s2), (2, .int r7), (3, .int s4), (4, .int r7)]) [1, 2, 0, 3, 4] dX4_bestSize_31 rfl (by decide) rfl ?_
          refine g_iload_n hX (pc := 32) (i := 3) dX4_bestSize_32 rfl 3 rfl ?_
          refine g_istore_n hX (pc := 33) (i := 1) (ls' := [(0, .ref o0), (1, .int s4), (2, .int r7), (3, .int s4), (4, .int r7)]) [1, 0, 2, 3, 4] dX4_bestSize_33 rfl (by decide) rfl ?_
          exact Kj9 ((s4, r7)) (Option.some.inj h)
        · replace h := ifN c8 h
          exact Kj9 ((s2, s3)) (Option.some.inj h)
  exact Ll5 kl5 1 r1 2 hkl5
