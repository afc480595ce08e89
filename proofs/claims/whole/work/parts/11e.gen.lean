noncomputable def b_X5_needs_17 (o0 : Nat) (s : Int32 × MI) : Option ((Int32 × MI) ⊕ (Int32 × MI)) :=
  if s.1 < (s.2 o0 35) then
    (wr 10 s.2 (o0 + 21) s.1 s.1).bind fun I8 =>
    some (.inl ((s.1 + 1, I8)))
  else
    some (.inr ((s.1, s.2)))
noncomputable def f_X5_needs (o0 : Nat) (J : MJ) (I : MI) : Option (Int32 × MI) :=
  (wf I o0 0 0).bind fun I1 =>
  (f_X5_nextWave o0 J I1).bind fun r2 =>
  (f_X5_laysPicks o0 r2 J I1).bind fun r3 =>
  (lp (b_X5_needs_17 o0) ((0, r3))).bind fun p9 =>
  (f_X5_needsBy o0 r2 (o0 + 21) 10 J p9.2).bind fun r10 =>
  some ((r10.1, r10.2))
theorem nm_X5_needs : yX5_needs.cls ≠ "java/lang/invoke/MethodHandle" ∧ yX5_needs.cls ≠ "java/lang/invoke/VarHandle" ∧ (parseMethodDescriptor yX5_needs.desc).map (fun d => d.parameters.length) = some 0 := by decide +kernel
set_option maxRecDepth 100000 in
set_option maxHeartbeats 4000000 in
theorem ct_X5_needs {E : Ev} {d : Nat} {z : Sh} {J : MJ} {I : MI} {o0 : Nat} {rr : Int32} {Iz : MI} (ho0 : oX5 z o0) (h : f_X5_needs o0 J I = some ((rr, Iz))) : Ct E (d + 4) yX5_needs cX5_needs 3 (some .int) 0 0 [.ref o0] z J I (some (.int rr)) z J Iz := by
  unfold f_X5_needs at h
  refine Ct.of (own := RX5) (ls := [(0, .ref o0)]) (by decide) rfl (Nat.le_of_ble_eq_true rfl) rfl ?_
  intro X hr0 hnm hX
  refine g_aload_n hX (pc := 0) (i := 0) dX5_needs_0 rfl 0 rfl ?_
  refine g_iconst hX (pc := 1) (v := 0) dX5_needs_1 (by decide) ?_
  obtain ⟨I1, e_I1, h⟩ := bnd h
  refine pf5_0 hX (pc := 2) ho0 fl_X5_86 dX5_needs_2 e_I1 ?_
  refine g_aload_n hX (pc := 5) (i := 0) dX5_needs_5 rfl 0 rfl ?_
  obtain ⟨r2, e_r2, h⟩ := bnd h
  refine g_callVi hX (pc := 6) (d := d + 3) hr0 [] (c := 5) (ct_X5_nextWave (d := d + 0) ho0 e_r2) ho0.1.1 ho0.1.2 (by decide) rfl co_X5_nextWave ml_X5_269 im_X5_nextWave sl_X5_nextWave ini_X5 nm_X5_nextWave (by decide) ⟨Nat.le_refl _, Nat.le_refl _⟩ (Nat.le_refl _) (Nat.le_of_ble_eq_true rfl) rfl dX5_needs_6 ?_
  refine g_istore_n hX (pc := 9) (i := 1) (ls' := [(0, .ref o0), (1, .int r2)]) [1, 0] dX5_needs_9 rfl (by decide) rfl ?_
  refine g_aload_n hX (pc := 10) (i := 0) dX5_needs_10 rfl 0 rfl ?_
  refine g_iload_n hX (pc := 11) (i := 1) dX5_needs_11 rfl 1 rfl ?_
  obtain ⟨r3, e_r3, h⟩ := bnd h
  refine g_callVv hX (pc := 12) (d := d + 3) hr0 [.int r2] (c := 5) (ct_X5_laysPicks (d := d + 3) ho0 e_r3) ho0.1.1 ho0.1.2 (by decide) rfl co_X5_laysPicks ml_X5_275 im_X5_laysPicks sl_X5_laysPicks ini_X5 nm_X5_laysPicks (by decide) ⟨Nat.le_refl _, Nat.le_refl _⟩ (Nat.le_refl _) (Nat.le_of_ble_eq_true rfl) rfl dX5_needs_12 ?_
  refine g_iconst hX (pc := 15) (v := 0) dX5_needs_15 (by decide) ?_
  refine g_istore_n hX (pc := 16) (i := 2) (ls' := [(0, .ref o0), (1, .int r2), (2, .int 0)]) [1, 2, 0] dX5_needs_16 rfl (by decide) rfl ?_
  obtain ⟨p9, hpl6, h⟩ := bnd h
  have Kl6 : ∀ ql6 : Int32 × MI, ql6 = p9 → GW E X (QX E X 0 0 (some (.int rr)) z J Iz) 3 38 [(0, .ref o0), (1, .int r2), (2, .int ql6.1)] [] z J ql6.2 0 0 := by
    intro ql6 hql6
    subst hql6
    refine g_aload_n hX (pc := 38) (i := 0) dX5_needs_38 rfl 0 rfl ?_
    refine g_iload_n hX (pc := 39) (i := 1) dX5_needs_39 rfl 1 rfl ?_
    refine g_aload_n hX (pc := 40) (i := 0) dX5_needs_40 rfl 0 rfl ?_
    refine gf5_37 hX (pc := 41) ho0 fl_X5_73 dX5_needs_41 ?_
    obtain ⟨r10, e_r10, h⟩ := bnd h
    refine g_callVi hX (pc := 44) (d := d + 3) hr0 [.int r2, .ref (o0 + 21)] (c := 5) (ct_X5_needsBy (d := d + 1) ho0 ⟨(s5_37 ho0).1, (s5_37 ho0).2.1, (s5_37 ho0).2.2.1⟩ e_r10) ho0.1.1 ho0.1.2 (by decide) rfl co_X5_needsBy ml_X5_324 im_X5_needsBy sl_X5_needsBy ini_X5 nm_X5_needsBy (by decide) ⟨Nat.le_refl _, Nat.le_refl _⟩ (Nat.le_refl _) (Nat.le_of_ble_eq_true rfl) rfl dX5_needs_44 ?_
    replace h := Option.some.inj h
    obtain ⟨rfl, rfl⟩ := Prod.mk.inj h
    exact g_ireturn hX (Nat.le_refl _) (Nat.le_refl _) dX5_needs_47
  obtain ⟨kl6, hkl6⟩ := lp_ex hpl6
  clear hpl6 h
  have Ll6 : ∀ k : Nat, ∀ (s4 : Int32) (I5 : MI), lpN k (b_X5_needs_17 o0) ((s4, I5)) = some p9 → GW E X (QX E X 0 0 (some (.int rr)) z J Iz) 3 17 [(0, .ref o0), (1, .int r2), (2, .int s4)] [] z J I5 0 0 := by
    intro k
    induction k with
    | zero => intro s4 I5 h; cases h
    | succ k ihl6 =>
      intro s4 I5 h
      obtain ⟨wl6, h, hwl6⟩ := lpN_s h
      unfold b_X5_needs_17 at h
      try dsimp only at h
      refine g_iload_n hX (pc := 17) (i := 2) dX5_needs_17 rfl 2 rfl ?_
      refine g_aload_n hX (pc := 18) (i := 0) dX5_needs_18 rfl 0 rfl ?_
      refine gf5_35 hX (pc := 19) ho0 fl_X5_272 dX5_needs_19 ?_
      refine g_icmp_ge hX (pc := 22) dX5_needs_22 (tgt := 38) (by decide) (fun c7 => ?_) (fun c7 => ?_)
      · replace h := ifP c7 h
        refine g_aload_n hX (pc := 25) (i := 0) dX5_needs_25 rfl 0 rfl ?_
        refine gf5_37 hX (pc := 26) ho0 fl_X5_73 dX5_needs_26 ?_
        refine g_iload_n hX (pc := 29) (i := 2) dX5_needs_29 rfl 2 rfl ?_
        refine g_iload_n hX (pc := 30) (i := 2) dX5_needs_30 rfl 2 rfl ?_
        obtain ⟨I8, e_I8, h⟩ := bnd h
        refine g_iastoreE hX (pc := 31) (s5_37 ho0).1 (s5_37 ho0).2.1 (s5_37 ho0).2.2.1 e_I8 dX5_needs_31 ?_
        refine g_iinc hX (pc := 32) (i := 2) (v := s4 + 1) (ls' := [(0, .ref o0), (1, .int r2), (2, .int (s4 + 1))]) 2 [1, 2, 0] dX5_needs_32 rfl (by rfl) (by decide) rfl ?_
        refine g_goto hX (pc := 35) (tgt := 17) dX5_needs_35 (by decide) ?_
        obtain rfl := Option.some.inj h
        exact ihl6 (s4 + 1) I8 hwl6
      · replace h := ifN c7 h
        obtain rfl := Option.some.inj h
        exact Kl6 ((s4, I5)) hwl6
  exact Ll6 kl6 0 r3 hkl6
noncomputable def b_X5_pickAbove_4 (o0 : Nat) (x1 : Int32) (I : MI) (s : Int32 × Int32) : Option ((Int32 × Int32) ⊕ (Int32 × Int32)) :=
  if s.2 < (I o0 35) then
    (rd 10 (I (o0 + 18)) s.2).bind fun v5 =>
    (if x1 < v5 then
      if s.1 < 0 then
        some s.2
      else
        (rd 10 (I (o0 + 18)) s.2).bind fun v9 =>
        (rd 10 (I (o0 + 18)) s.1).bind fun v10 =>
        if v9 < v10 then
          some s.2
        else
          some s.1
    else
      some s.1).bind fun (p12 : Int32) =>
    some (.inl ((p12, s.2 + 1)))
  else
    some (.inr ((s.1, s.2)))
noncomputable def f_X5_pickAbove (o0 : Nat) (x1 : Int32) (J : MJ) (I : MI) : Option (Int32) :=
  (lp (b_X5_pickAbove_4 o0 x1 I) (((-1), 0))).bind fun p13 =>
  some p13.1
theorem nm_X5_pickAbove : yX5_pickAbove.cls ≠ "java/lang/invoke/MethodHandle" ∧ yX5_pickAbove.cls ≠ "java/lang/invoke/VarHandle" ∧ (parseMethodDescriptor yX5_pickAbove.desc).map (fun d => d.parameters.length) = some 1 := by decide +kernel
set_option maxRecDepth 100000 in
set_option maxHeartbeats 4000000 in
theorem ct_X5_pickAbove {E : Ev} {d : Nat} {z : Sh} {J : MJ} {I : MI} {o0 : Nat} {x1 : Int32} {rr : Int32} (ho0 : oX5 z o0) (h : f_X5_pickAbove o0 x1 J I = some rr) : Ct E (d + 0) yX5_pickAbove cX5_pickAbove 4 (some .int) 0 0 [.ref o0, .int x1] z J I (some (.int rr)) z J I := by
  unfold f_X5_pickAbove at h
  refine Ct.of (own := RX5) (ls := [(0, .ref o0), (1, .int x1)]) (by decide) rfl (Nat.le_of_ble_eq_true rfl) rfl ?_
  intro X hr0 hnm hX
  refine g_iconst hX (pc := 0) (v := (-1)) dX5_pickAbove_0 (by decide) ?_
  refine g_istore_n hX (pc := 1) (i := 2) (ls' := [(0, .ref o0), (1, .int x1), (2, .int ((-1)))]) [1, 2, 0] dX5_pickAbove_1 rfl (by decide) rfl ?_
  refine g_iconst hX (pc := 2) (v := 0) dX5_pickAbove_2 (by decide) ?_
  refine g_istore_n hX (pc := 3) (i := 3) (ls' := [(0, .ref o0), (1, .int x1), (2, .int ((-1))), (3, .int 0)]) [1, 2, 3, 0] dX5_pickAbove_3 rfl (by decide) rfl ?_
  obtain ⟨p13, hpl3, h⟩ := bnd h
  have Kl3 : ∀ ql3 : Int32 × Int32, ql3 = p13 → GW E X (QX E X 0 0 (some (.int rr)) z J I) 4 49 [(0, .ref o0), (1, .int x1), (2, .int ql3.1), (3, .int ql3.2)] [] z J I 0 0 := by
    intro ql3 hql3
    subst hql3
    refine g_iload_n hX (pc := 49) (i := 2) dX5_pickAbove_49 rfl 2 rfl ?_
    obtain rfl := Option.some.inj h
    exact g_ireturn hX (Nat.le_refl _) (Nat.le_refl _) dX5_pickAbove_50
  obtain ⟨kl3, hkl3⟩ := lp_ex hpl3
  clear hpl3 h
  have Ll3 : ∀ k : Nat, ∀ (s1 : Int32) (s2 : Int32), lpN k (b_X5_pickAbove_4 o0 x1 I) ((s1, s2)) = some p13 → GW E X (QX E X 0 0 (some (.int rr)) z J I) 4 4 [(0, .ref o0), (1, .int x1), (2, .int s1), (3, .int s2)] [] z J I 0 0 := by
    intro k
    induction k with
    | zero => intro s1 s2 h; cases h
    | succ k ihl3 =>
      intro s1 s2 h
      obtain ⟨wl3, h, hwl3⟩ := lpN_s h
      unfold b_X5_pickAbove_4 at h
      try dsimp only at h
      refine g_iload_n hX (pc := 4) (i := 3) dX5_pickAbove_4 rfl 3 rfl ?_
      refine g_aload_n hX (pc := 5) (i := 0) dX5_pickAbove_5 rfl 0 rfl ?_
      refine gf5_35 hX (pc := 6) ho0 fl_X5_272 dX5_pickAbove_6 ?_
      refine g_icmp_ge hX (pc := 9) dX5_pickAbove_9 (tgt := 49) (by decide) (fun c4 => ?_) (fun c4 => ?_)
      · replace h := ifP c4 h
        refine g_aload_n hX (pc := 12) (i := 0) dX5_pickAbove_12 rfl 0 rfl ?_
        refine gf5_33 hX (pc := 13) ho0 fl_X5_64 dX5_pickAbove_13 ?_
        refine g_iload_n hX (pc := 16) (i := 3) dX5_pickAbove_16 rfl 3 rfl ?_
        obtain ⟨v5, e_v5, h⟩ := bnd h
        refine g_ialoadE hX (pc := 17) (s5_33 ho0).1 (s5_33 ho0).2.1 (s5_33 ho0).2.2.1 e_v5 dX5_pickAbove_17 ?_
        refine g_iload_n hX (pc := 18) (i := 1) dX5_pickAbove_18 rfl 1 rfl ?_
        obtain ⟨p12, hpj7, h⟩ := bnd h
        have Kj7 : ∀ qj7 : Int32, qj7 = p12 → GW E X (QX E X 0 0 (some (.int rr)) z J I) 4 43 [(0, .ref o0), (1, .int x1), (2, .int qj7), (3, .int s2)] [] z J I 0 0 := by
          intro qj7 hqj7
          subst hqj7
          refine g_iinc hX (pc := 43) (i := 3) (v := s2 + 1) (ls' := [(0, .ref o0), (1, .int x1), (2, .int qj7), (3, .int (s2 + 1))]) 3 [1, 2, 3, 0] dX5_pickAbove_43 rfl (by rfl) (by decide) rfl ?_
          refine g_goto hX (pc := 46) (tgt := 4) dX5_pickAbove_46 (by decide) ?_
          obtain rfl := Option.some.inj h
          exact ihl3 qj7 (s2 + 1) hwl3
        replace h := hpj7
        clear hpj7
        refine g_icmp_le hX (pc := 19) dX5_pickAbove_19 (tgt := 43) (by decide) (fun c6 => ?_) (fun c6 => ?_)
        · replace h := ifP c6 h
          refine g_iload_n hX (pc := 22) (i := 2) dX5_pickAbove_22 rfl 2 rfl ?_
          refine g_if_lt hX (pc := 23) dX5_pickAbove_23 (tgt := 41) (by decide) (fun c8 => ?_) (fun c8 => ?_)
          · replace h := ifP c8 h
            refine g_iload_n hX (pc := 41) (i := 3) dX5_pickAbove_41 rfl 3 rfl ?_
            refine g_istore_n hX (pc := 42) (i := 2) (ls' := [(0, .ref o0), (1, .int x1), (2, .int s2), (3, .int s2)]) [1, 2, 0, 3] dX5_pickAbove_42 rfl (by decide) rfl ?_
            exact Kj7 s2 (Option.some.inj h)
          · replace h := ifN c8 h
            refine g_aload_n hX (pc := 26) (i := 0) dX5_pickAbove_26 rfl 0 rfl ?_
            refine gf5_33 hX (pc := 27) ho0 fl_X5_64 dX5_pickAbove_27 ?_
            refine g_iload_n hX (pc := 30) (i := 3) dX5_pickAbove_30 rfl 3 rfl ?_
            obtain ⟨v9, e_v9, h⟩ := bnd h
            refine g_ialoadE hX (pc := 31) (s5_33 ho0).1 (s5_33 ho0).2.1 (s5_33 ho0).2.2.1 e_v9 dX5_pickAbove_31 ?_
            refine g_aload_n hX (pc := 32) (i := 0) dX5_pickAbove_32 rfl 0 rfl ?_
            refine gf5_33 hX (pc := 33) ho0 fl_X5_64 dX5_pickAbove_33 ?_
            refine g_iload_n hX (pc := 36) (i := 2) dX5_pickAbove_36 rfl 2 rfl ?_
            obtain ⟨v10, e_v10, h⟩ := bnd h
            refine g_ialoadE hX (pc := 37) (s5_33 ho0).1 (s5_33 ho0).2.1 (s5_33 ho0).2.2.1 e_v10 dX5_pickAbove_37 ?_
            refine g_icmp_ge hX (pc := 38) dX5_pickAbove_38 (tgt := 43) (by decide) (fun c11 => ?_) (fun c11 => ?_)
            · replace h := ifP c11 h
              refine g_iload_n hX (pc := 41) (i := 3) dX5_pickAbove_41 rfl 3 rfl ?_
              refine g_istore_n hX (pc := 42) (i := 2) (ls' := [(0, .ref o0), (1, .int x1), (2, .int s2), (3, .int s2)]) [1, 2, 0, 3] dX5_pickAbove_42 rfl (by decide) rfl ?_
              exact Kj7 s2 (Option.some.inj h)
            · replace h := ifN c11 h
              exact Kj7 s1 (Option.some.inj h)
        · replace h := ifN c6 h
          exact Kj7 s1 (Option.some.inj h)
      · replace h := ifN c4 h
        obtain rfl := Option.some.inj h
        exact Kl3 ((s1, s2)) hwl3
  exact Ll3 kl3 ((-1)) 0 hkl3
noncomputable def b_X5_orders1_38 (o0 : Nat) (s : Int32 × MI) : Option ((Int32 × MI) ⊕ (Int32 × MI)) :=
  if s.1 < (s.2 o0 35) then
    (rd 10 (s.2 (o0 + 21)) s.1).bind fun v9 =>
    (wr 10 s.2 (o0 + 22) s.1 v9).bind fun I10 =>
    some (.inl ((s.1 + 1, I10)))
  else
    some (.inr ((s.1, s.2)))
noncomputable def b_X5_orders1_75 (o0 : Nat) (x1 : Int32) (x2 : Int32) (x3 : Int32) (J : MJ) (F : Nat → Int32 → Int32 → Int32 → MJ → MI → Option (MI)) (s : Int32 × MI) : Option ((Int32 × MI) ⊕ (Int32 × MI)) :=
  if s.1 < 0 then
    some (.inr ((s.1, s.2)))
  else
    (if ((x3 >>> (s.1 &&& 31)) &&& 1) = 1 then
      some s.2
    else
      (wr 10 s.2 (o0 + 21) x2 s.1).bind fun I19 =>
      (F o0 x1 (x2 + 1) (x3 ||| ((1 : Int32) <<< (s.1 &&& 31))) J I19).bind fun r20 =>
      some r20).bind fun (p21 : MI) =>
    (rd 10 (p21 (o0 + 18)) s.1).bind fun v22 =>
    (f_X5_pickAbove o0 v22 J p21).bind fun r23 =>
    some (.inl ((r23, p21)))
noncomputable def g_X5_orders1 (F : Nat → Int32 → Int32 → Int32 → MJ → MI → Option (MI)) (o0 : Nat) (x1 : Int32) (x2 : Int32) (x3 : Int32) (J : MJ) (I : MI) : Option (MI) :=
  if x2 = (I o0 35) then
    (f_X5_needsBy o0 x1 (o0 + 21) 10 J I).bind fun r2 =>
    if r2.1 < (r2.2 o0 39) then
      (wf r2.2 o0 39 r2.1).bind fun I4 =>
      (lp (b_X5_orders1_38 o0) ((0, I4))).bind fun p11 =>
      some p11.2
    else
      some r2.2
  else
    (f_X5_pickAbove o0 ((-1)) J I).bind fun r12 =>
    (lp (b_X5_orders1_75 o0 x1 x2 x3 J F) ((r12, I))).bind fun p24 =>
    some p24.2
noncomputable def f_X5_orders1 : Nat → Nat → Int32 → Int32 → Int32 → MJ → MI → Option (MI)
  | 0 => fun _ => fun _ => fun _ => fun _ => fun _ => fun _ => none
  | n + 1 => g_X5_orders1 (f_X5_orders1 n)
theorem nm_X5_orders1 : yX5_orders1.cls ≠ "java/lang/invoke/MethodHandle" ∧ yX5_orders1.cls ≠ "java/lang/invoke/VarHandle" ∧ (parseMethodDescriptor yX5_orders1.desc).map (fun d => d.parameters.length) = some 3 := by decide +kernel
set_option maxRecDepth 100000 in
set_option maxHeartbeats 4000000 in
theorem cg_X5_orders1 {E : Ev} {d : Nat} {z : Sh} {J : MJ} {I : MI} {o0 : Nat} {x1 : Int32} {x2 : Int32} {x3 : Int32} {Iz : MI} (ho0 : oX5 z o0) {F : Nat → Int32 → Int32 → Int32 → MJ → MI → Option (MI)} (hF : ∀ {J : MJ} {I : MI} {x1 : Int32} {x2 : Int32} {x3 : Int32} {Iz : MI}, F o0 x1 x2 x3 J I = some Iz → Ct E (d + 2) yX5_orders1 cX5_orders1 6 none 0 0 [.ref o0, .int x1, .int x2, .int x3] z J I none z J Iz) (h : g_X5_orders1 F o0 x1 x2 x3 J I = some Iz) : Ct E (d + 3) yX5_orders1 cX5_orders1 6 none 0 0 [.ref o0, .int x1, .int x2, .int x3] z J I none z J Iz := by
  unfold g_X5_orders1 at h
  refine Ct.of (own := RX5) (ls := [(0, .ref o0), (1, .int x1), (2, .int x2), (3, .int x3)]) (by decide) rfl (Nat.le_of_ble_eq_true rfl) rfl ?_
  intro X hr0 hnm hX
  refine g_iload_n hX (pc := 0) (i := 2) dX5_orders1_0 rfl 2 rfl ?_
  refine g_aload_n hX (pc := 1) (i := 0) dX5_orders1_1 rfl 0 rfl ?_
  refine gf5_35 hX (pc := 2) ho0 fl_X5_272 dX5_orders1_2 ?_
  refine g_icmp_ne hX (pc := 5) dX5_orders1_5 (tgt := 68) (by decide) (fun c1 => ?_) (fun c1 => ?_)
  · replace h := ifP c1 h
    refine g_aload_n hX (pc := 8) (i := 0) dX5_orders1_8 rfl 0 rfl ?_
    refine g_iload_n hX (pc := 9) (i := 1) dX5_orders1_9 rfl 1 rfl ?_
    refine g_aload_n hX (pc := 10) (i := 0) dX5_orders1_10 rfl 0 rfl ?_
    refine gf5_37 hX (pc := 11) ho0 fl_X5_73 dX5_orders1_11 ?_
    obtain ⟨r2, e_r2, h⟩ := bnd h
    refine g_callVi hX (pc := 14) (d := d + 2) hr0 [.int x1, .ref (o0 + 21)] (c := 5) (ct_X5_needsBy (d := d + 0) ho0 ⟨(s5_37 ho0).1, (s5_37 ho0).2.1, (s5_37 ho0).2.2.1⟩ e_r2) ho0.1.1 ho0.1.2 (by decide) rfl co_X5_needsBy ml_X5_324 im_X5_needsBy sl_X5_needsBy ini_X5 nm_X5_needsBy (by decide) ⟨Nat.le_refl _, Nat.le_refl _⟩ (Nat.le_refl _) (Nat.le_of_ble_eq_true rfl) rfl dX5_orders1_14 ?_
    refine g_istore hX (pc := 17) (ls' := [(0, .ref o0), (1, .int x1), (2, .int x2), (3, .int x3), (4, .int r2.1)]) [1, 2, 3, 4, 0] dX5_orders1_17 (by decide) rfl ?_
    refine g_iload hX (pc := 19) dX5_orders1_19 4 rfl ?_
    refine g_aload_n hX (pc := 21) (i := 0) dX5_orders1_21 rfl 0 rfl ?_
    refine gf5_39 hX (pc := 22) ho0 fl_X5_328 dX5_orders1_22 ?_
    refine g_icmp_lt hX (pc := 25) dX5_orders1_25 (tgt := 29) (by decide) (fun c3 => ?_) (fun c3 => ?_)
    · replace h := ifP c3 h
      refine g_aload_n hX (pc := 29) (i := 0) dX5_orders1_29 rfl 0 rfl ?_
      refine g_iload hX (pc := 30) dX5_orders1_30 4 rfl ?_
      obtain ⟨I4, e_I4, h⟩ := bnd h
      refine pf5_39 hX (pc := 32) ho0 fl_X5_328 dX5_orders1_32 e_I4 ?_
      refine g_iconst hX (pc := 35) (v := 0) dX5_orders1_35 (by decide) ?_
      refine g_istore hX (pc := 36) (ls' := [(0, .ref o0), (1, .int x1), (2, .int x2), (3, .int x3), (4, .int r2.1), (5, .int 0)]) [1, 2, 3, 4, 5, 0] dX5_orders1_36 (by decide) rfl ?_
      obtain ⟨p11, hpl7, h⟩ := bnd h
      have Kl7 : ∀ ql7 : Int32 × MI, ql7 = p11 → GW E X (QX E X 0 0 none z J Iz) 6 67 [(0, .ref o0), (1, .int x1), (2, .int x2), (3, .int x3), (4, .int r2.1), (5, .int ql7.1)] [] z J ql7.2 0 0 := by
        intro ql7 hql7
        subst hql7
        obtain rfl := Option.some.inj h
        exact g_return hX (Nat.le_refl _) (Nat.le_refl _) dX5_orders1_67
      obtain ⟨kl7, hkl7⟩ := lp_ex hpl7
      clear hpl7 h
      have Ll7 : ∀ k : Nat, ∀ (s5 : Int32) (I6 : MI), lpN k (b_X5_orders1_38 o0) ((s5, I6)) = some p11 → GW E X (QX E X 0 0 none z J Iz) 6 38 [(0, .ref o0), (1, .int x1), (2, .int x2), (3, .int x3), (4, .int r2.1), (5, .int s5)] [] z J I6 0 0 := by
        intro k
        induction k with
        | zero => intro s5 I6 h; cases h
        | succ k ihl7 =>
          intro s5 I6 h
          obtain ⟨wl7, h, hwl7⟩ := lpN_s h
          unfold b_X5_orders1_38 at h
          try dsimp only at h
          refine g_iload hX (pc := 38) dX5_orders1_38 5 rfl ?_
          refine g_aload_n hX (pc := 40) (i := 0) dX5_orders1_40 rfl 0 rfl ?_
          refine gf5_35 hX (pc := 41) ho0 fl_X5_272 dX5_orders1_41 ?_
          refine g_icmp_ge hX (pc := 44) dX5_orders1_44 (tgt := 67) (by decide) (fun c8 => ?_) (fun c8 => ?_)
          · replace h := ifP c8 h
            refine g_aload_n hX (pc := 47) (i := 0) dX5_orders1_47 rfl 0 rfl ?_
            refine gf5_38 hX (pc := 48) ho0 fl_X5_76 dX5_orders1_48 ?_
            refine g_iload hX (pc := 51) dX5_orders1_51 5 rfl ?_
            refine g_aload_n hX (pc := 53) (i := 0) dX5_orders1_53 rfl 0 rfl ?_
            refine gf5_37 hX (pc := 54) ho0 fl_X5_73 dX5_orders1_54 ?_
            refine g_iload hX (pc := 57) dX5_orders1_57 5 rfl ?_
            obtain ⟨v9, e_v9, h⟩ := bnd h
            refine g_ialoadE hX (pc := 59) (s5_37 ho0).1 (s5_37 ho0).2.1 (s5_37 ho0).2.2.1 e_v9 dX5_orders1_59 ?_
            obtain ⟨I10, e_I10, h⟩ := bnd h
            refine g_iastoreE hX (pc := 60) (s5_38 ho0).1 (s5_38 ho0).2.1 (s5_38 ho0).2.2.1 e_I10 dX5_orders1_60 ?_
            refine g_iinc hX (pc := 61) (i := 5) (v := s5 + 1) (ls' := [(0, .ref o0), (1, .int x1), (2, .int x2), (3, .int x3), (4, .int r2.1), (5, .int (s5 + 1))]) 5 [1, 2, 3, 4, 5, 0] dX5_orders1_61 rfl (by rfl) (by decide) rfl ?_
            refine g_goto hX (pc := 64) (tgt := 38) dX5_orders1_64 (by decide) ?_
            obtain rfl := Option.some.inj h
            exact ihl7 (s5 + 1) I10 hwl7
          · replace h := ifN c8 h
            obtain rfl := Option.some.inj h
            exact Kl7 ((s5, I6)) hwl7
      exact Ll7 kl7 0 I4 hkl7
    · replace h := ifN c3 h
      obtain rfl := Option.some.inj h
      exact g_return hX (Nat.le_refl _) (Nat.le_refl _) dX5_orders1_28
  · replace h := ifN c1 h
    refine g_aload_n hX (pc := 68) (i := 0) dX5_orders1_68 rfl 0 rfl ?_
    refine g_iconst hX (pc := 69) (v := (-1)) dX5_orders1_69 (by decide) ?_
    obtain ⟨r12, e_r12, h⟩ := bnd h
    refine g_callVi hX (pc := 70) (d := d + 2) hr0 [.int ((-1))] (c := 5) (ct_X5_pickAbove (d := d + 2) ho0 e_r12) ho0.1.1 ho0.1.2 (by decide) rfl co_X5_pickAbove ml_X5_331 im_X5_pickAbove sl_X5_pickAbove ini_X5 nm_X5_pickAbove (by decide) ⟨Nat.le_refl _, Nat.le_refl _⟩ (Nat.le_refl _) (Nat.le_of_ble_eq_true rfl) rfl dX5_orders1_70 ?_
    refine g_istore hX (pc := 73) (ls' := [(0, .ref o0), (1, .int x1), (2, .int x2), (3, .int x3), (4, .int r12)]) [1, 2, 3, 4, 0] dX5_orders1_73 (by decide) rfl ?_
    obtain ⟨p24, hpl15, h⟩ := bnd h
    have Kl15 : ∀ ql15 : Int32 × MI, ql15 = p24 → GW E X (QX E X 0 0 none z J Iz) 6 131 [(0, .ref o0), (1, .int x1), (2, .int x2), (3, .int x3), (4, .int ql15.1)] [] z J ql15.2 0 0 := by
      intro ql15 hql15
      subst hql15
      obtain rfl := Option.some.inj h
      exact g_return hX (Nat.le_refl _) (Nat.le_refl _) dX5_orders1_131
    obtain ⟨kl15, hkl15⟩ := lp_ex hpl15
    clear hpl15 h
    have Ll15 : ∀ k : Nat, ∀ (s13 : Int32) (I14 : MI), lpN k (b_X5_orders1_75 o0 x1 x2 x3 J F) ((s13, I14)) = some p24 → GW E X (QX E X 0 0 none z J Iz) 6 75 [(0, .ref o0), (1, .int x1), (2, .int x2), (3, .int x3), (4, .int s13)] [] z J I14 0 0 := by
      intro k
      induction k with
      | zero => intro s13 I14 h; cases h
      | succ k ihl15 =>
        intro s13 I14 h
        obtain ⟨wl15, h, hwl15⟩ := lpN_s h
        unfold b_X5_orders1_75 at h
        try dsimp only at h
        refine g_iload hX (pc := 75) dX5_orders1_75 4 rfl ?_
        refine g_if_lt hX (pc := 77) dX5_orders1_77 (tgt := 131) (by decide) (fun c16 => ?_) (fun c16 => ?_)
        · replace h := ifP c16 h
          obtain rfl := Option.some.inj h
          exact Kl15 ((s13, I14)) hwl15
        · replace h := ifN c16 h
          refine g_iload_n hX (pc := 80) (i := 3) dX5_orders1_80 rfl 3 rfl ?_
          refine g_iload hX (pc := 81) dX5_orders1_81 4 rfl ?_
          refine g_ishr hX (pc := 83) dX5_orders1_83 ?_
          refine g_iconst hX (pc := 84) (v := 1) dX5_orders1_84 (by decide) ?_
          refine g_iand hX (pc := 85) dX5_orders1_85 ?_
          refine g_iconst hX (pc := 86) (v := 1) dX5_orders1_86 (by decide) ?_
          obtain ⟨p21, hpj18, h⟩ := bnd h
          have Kj18 : ∀ qj18 : MI, qj18 = p21 → GW E X (QX E X 0 0 none z J Iz) 6 115 [(0, .ref o0), (1, .int x1), (2, .int x2), (3, .int x3), (4, .int s13)] [] z J qj18 0 0 := by
            intro qj18 hqj18
            subst hqj18
            refine g_aload_n hX (pc := 115) (i := 0) dX5_orders1_115 rfl 0 rfl ?_
            refine g_aload_n hX (pc := 116) (i := 0) dX5_orders1_116 rfl 0 rfl ?_
            refine gf5_33 hX (pc := 117) ho0 fl_X5_64 dX5_orders1_117 ?_
            refine g_iload hX (pc := 120) dX5_orders1_120 4 rfl ?_
            obtain ⟨v22, e_v22, h⟩ := bnd h
            refine g_ialoadE hX (pc := 122) (s5_33 ho0).1 (s5_33 ho0).2.1 (s5_33 ho0).2.2.1 e_v22 dX5_orders1_122 ?_
            obtain ⟨r23, e_r23, h⟩ := bnd h
            refine g_callVi hX (pc := 123) (d := d + 2) hr0 [.int v22] (c := 5) (ct_X5_pickAbove (d := d + 2) ho0 e_r23) ho0.1.1 ho0.1.2 (by decide) rfl co_X5_pickAbove ml_X5_331 im_X5_pickAbove sl_X5_pickAbove ini_X5 nm_X5_pickAbove (by decide) ⟨Nat.le_refl _, Nat.le_refl _⟩ (Nat.le_refl _) (Nat.le_of_ble_eq_true rfl) rfl dX5_orders1_123 ?_
            refine g_istore hX (pc := 126) (ls' := [(0, .ref o0), (1, .int x1), (2, .int x2), (3, .int x3), (4, .int r23)]) [1, 2, 3, 4, 0] dX5_orders1_126 (by decide) rfl ?_
            refine g_goto hX (pc := 128) (tgt := 75) dX5_orders1_128 (by decide) ?_
            obtain rfl := Option.some.inj h
            exact ihl15 r23 qj18 hwl15
          replace h := hpj18
          clear hpj18
          refine g_icmp_ne hX (pc := 87) dX5_orders1_87 (tgt := 93) (by decide) (fun c17 => ?_) (fun c17 => ?_)
          · replace h := ifP c17 h
            refine g_goto hX (pc := 90) (tgt := 115) dX5_orders1_90 (by decide) ?_
            exact Kj18 I14 (Option.some.inj h)
          · replace h := ifN c17 h
            refine g_aload_n hX (pc := 93) (i := 0) dX5_orders1_93 rfl 0 rfl ?_
            refine gf5_37 hX (pc := 94) ho0 fl_X5_73 dX5_orders1_94 ?_
            refine g_iload_n hX (pc := 97) (i := 2) dX5_orders1_97 rfl 2 rfl ?_
            refine g_iload hX (pc := 98) dX5_orders1_98 4 rfl ?_
            obtain ⟨I19, e_I19, h⟩ := bnd h
            refine g_iastoreE hX (pc := 100) (s5_37 ho0).1 (s5_37 ho0).2.1 (s5_37 ho0).2.2.1 e_I19 dX5_orders1_100 ?_
            refine g_aload_n hX (pc := 101) (i := 0) dX5_orders1_101 rfl 0 rfl ?_
            refine g_iload_n hX (pc := 102) (i := 1) dX5_orders1_102 rfl 1 rfl ?_
            refine g_iload_n hX (pc := 103) (i := 2) dX5_orders1_103 rfl 2 rfl ?_
            refine g_iconst hX (pc := 104) (v := 1) dX5_orders1_104 (by decide) ?_
            refine g_iadd hX (pc := 105) dX5_orders1_105 ?_
            refine g_iload_n hX (pc := 106) (i := 3) dX5_orders1_106 rfl 3 rfl ?_
            refine g_iconst hX (pc := 107) (v := 1) dX5_orders1_107 (by decide) ?_
            refine g_iload hX (pc := 108) dX5_orders1_108 4 rfl ?_
            refine g_ishl hX (pc := 110) dX5_orders1_110 ?_
            refine g_ior hX (pc := 111) dX5_orders1_111 ?_
            obtain ⟨r20, e_r20, h⟩ := bnd h
            refine g_callVv hX (pc := 112) (d := d + 2) hr0 [.int x1, .int (x2 + 1), .int (x3 ||| ((1 : Int32) <<< (s13 &&& 31)))] (c := 5) (hF e_r20) ho0.1.1 ho0.1.2 (by decide) rfl co_X5_orders1 ml_X5_334 im_X5_orders1 sl_X5_orders1 ini_X5 nm_X5_orders1 (by decide) ⟨Nat.le_refl _, Nat.le_refl _⟩ (Nat.le_refl _) (Nat.le_of_ble_eq_true rfl) rfl dX5_orders1_112 ?_
            exact Kj18 r20 (Option.some.inj h)
    exact Ll15 kl15 r12 I hkl15
theorem ct_X5_orders1 {E : Ev} {d : Nat} {z : Sh} {J : MJ} {I : MI} {o0 : Nat} {x1 : Int32} {x2 : Int32} {x3 : Int32} {Iz : MI} (ho0 : oX5 z o0) {k : Nat} (h : f_X5_orders1 k o0 x1 x2 x3 J I = some Iz) : Ct E (d + 2 + k) yX5_orders1 cX5_orders1 6 none 0 0 [.ref o0, .int x1, .int x2, .int x3] z J I none z J Iz := by
  induction k generalizing J I x1 x2 x3 Iz with
  | zero => cases h
  | succ k ih => exact ct_cast (d := d + k + 3) (by omega) (cg_X5_orders1 (d := d + k) ho0 (F := f_X5_orders1 k) (fun hh => ct_cast (d := d + 2 + k) (by omega) (ih hh)) h)
noncomputable def f_X5_best (o0 : Nat) (x1 : Int32) (J : MJ) (I : MI) : Option (Int32 × MI) :=
  (wf I o0 0 0).bind fun I1 =>
  (f_X5_nextWave o0 J I1).bind fun r2 =>
  (f_X5_laysPicks o0 r2 J I1).bind fun r3 =>
  if 6 < (r3 o0 35) then
    some (((-2), r3))
  else
    if (r3 o0 35) = 0 then
      some (((-1), r3))
    else
      (f_X5_within x1.toInt64 0 ((r3 o0 35).toInt64)).bind fun r6 =>
      if r6 = 0 then
        some (((-1), r3))
      else
        (wf r3 o0 39 1000).bind fun I8 =>
        (f_X5_orders1 8 o0 r2 0 0 J I8).bind fun r9 =>
        (if x1 = 0 then
          some (r9 o0 39)
        else
          (rd 10 (r9 (o0 + 22)) (x1 - 1)).bind fun v12 =>
          (rd 10 (r9 (o0 + 18)) v12).bind fun v13 =>
          some v13).bind fun (p14 : Int32) =>
        some ((p14, r9))
theorem nm_X5_best : yX5_best.cls ≠ "java/lang/invoke/MethodHandle" ∧ yX5_best.cls ≠ "java/lang/invoke/VarHandle" ∧ (parseMethodDescriptor yX5_best.desc).map (fun d => d.parameters.length) = some 1 := by decide +kernel
set_option maxRecDepth 100000 in
set_option maxHeartbeats 4000000 in
theorem ct_X5_best {E : Ev} {d : Nat} {z : Sh} {J : MJ} {I : MI} {o0 : Nat} {x1 : Int32} {rr : Int32} {Iz : MI} (ho0 : oX5 z o0) (h : f_X5_best o0 x1 J I = some ((rr, Iz))) : Ct E (d + 11) yX5_best cX5_best 3 (some .int) 0 0 [.ref o0, .int x1] z J I (some (.int rr)) z J Iz := by
  unfold f_X5_best at h
  refine Ct.of (own := RX5) (ls := [(0, .ref o0), (1, .int x1)]) (by decide) rfl (Nat.le_of_ble_eq_true rfl) rfl ?_
  intro X hr0 hnm hX
  refine g_aload_n hX (pc := 0) (i := 0) dX5_best_0 rfl 0 rfl ?_
  refine g_iconst hX (pc := 1) (v := 0) dX5_best_1 (by decide) ?_
  obtain ⟨I1, e_I1, h⟩ := bnd h
  refine pf5_0 hX (pc := 2) ho0 fl_X5_86 dX5_best_2 e_I1 ?_
  refine g_aload_n hX (pc := 5) (i := 0) dX5_best_5 rfl 0 rfl ?_
  obtain ⟨r2, e_r2, h⟩ := bnd h
  refine g_callVi hX (pc := 6) (d := d + 10) hr0 [] (c := 5) (ct_X5_nextWave (d := d + 7) ho0 e_r2) ho0.1.1 ho0.1.2 (by decide) rfl co_X5_nextWave ml_X5_269 im_X5_nextWave sl_X5_nextWave ini_X5 nm_X5_nextWave (by decide) ⟨Nat.le_refl _, Nat.le_refl _⟩ (Nat.le_refl _) (Nat.le_of_ble_eq_true rfl) rfl dX5_best_6 ?_
  refine g_istore_n hX (pc := 9) (i := 2) (ls' := [(0, .ref o0), (1, .int x1), (2, .int r2)]) [1, 2, 0] dX5_best_9 rfl (by decide) rfl ?_
  refine g_aload_n hX (pc := 10) (i := 0) dX5_best_10 rfl 0 rfl ?_
  refine g_iload_n hX (pc := 11) (i := 2) dX5_best_11 rfl 2 rfl ?_
  obtain ⟨r3, e_r3, h⟩ := bnd h
  refine g_callVv hX (pc := 12) (d := d + 10) hr0 [.int r2] (c := 5) (ct_X5_laysPicks (d := d + 10) ho0 e_r3) ho0.1.1 ho0.1.2 (by decide) rfl co_X5_laysPicks ml_X5_275 im_X5_laysPicks sl_X5_laysPicks ini_X5 nm_X5_laysPicks (by decide) ⟨Nat.le_refl _, Nat.le_refl _⟩ (Nat.le_refl _) (Nat.le_of_ble_eq_true rfl) rfl dX5_best_12 ?_
  refine g_aload_n hX (pc := 15) (i := 0) dX5_best_15 rfl 0 rfl ?_
  refine gf5_35 hX (pc := 16) ho0 fl_X5_272 dX5_best_16 ?_
  refine g_bipush hX (pc := 19) (v := 6) dX5_best_19 (by decide) ?_
  refine g_icmp_le hX (pc := 21) dX5_best_21 (tgt := 27) (by decide) (fun c4 => ?_) (fun c4 => ?_)
  · replace h := ifP c4 h
    refine g_bipush hX (pc := 24) (v := (-2)) dX5_best_24 (by decide) ?_
    replace h := Option.some.inj h
    obtain ⟨rfl, rfl⟩ := Prod.mk.inj h
    exact g_ireturn hX (Nat.le_refl _) (Nat.le_refl _) dX5_best_26
  · replace h := ifN c4 h
    refine g_aload_n hX (pc := 27) (i := 0) dX5_best_27 rfl 0 rfl ?_
    refine gf5_35 hX (pc := 28) ho0 fl_X5_272 dX5_best_28 ?_
    refine g_if_eq hX (pc := 31) dX5_best_31 (tgt := 48) (by decide) (fun c5 => ?_) (fun c5 => ?_)
    · replace h := ifP c5 h
      refine g_iconst hX (pc := 48) (v := (-1)) dX5_best_48 (by decide) ?_
      replace h := Option.some.inj h
      obtain ⟨rfl, rfl⟩ := Prod.mk.inj h
      exact g_ireturn hX (Nat.le_refl _) (Nat.le_refl _) dX5_best_49
    · replace h := ifN c5 h
      refine g_iload_n hX (pc := 34) (i := 1) dX5_best_34 rfl 1 rfl ?_
      refine g_i2l hX (pc := 35) dX5_best_35 ?_
      refine g_lconst hX (pc := 36) (v := 0) dX5_best_36 (by decide) ?_
      refine g_aload_n hX (pc := 37) (i := 0) dX5_best_37 rfl 0 rfl ?_
      refine gf5_35 hX (pc := 38) ho0 fl_X5_272 dX5_best_38 ?_
      refine g_i2l hX (pc := 41) dX5_best_41 ?_
      obtain ⟨r6, e_r6, h⟩ := bnd h
      refine g_callSi hX (pc := 42) (d := d + 10) hr0 [.long x1.toInt64, .long 0, .long ((r3 o0 35).toInt64)] (ct_X5_within (d := d + 10)  e_r6) co_X5_within ml_X5_123 sta_X5_within ini_X5 nm_X5_within (by decide) ⟨Nat.le_refl _, Nat.le_refl _⟩ (Nat.le_refl _) (Nat.le_of_ble_eq_true rfl) rfl dX5_best_42 ?_
      refine g_if_ne hX (pc := 45) dX5_best_45 (tgt := 50) (by decide) (fun c7 => ?_) (fun c7 => ?_)
      · replace h := ifP c7 h
        refine g_iconst hX (pc := 48) (v := (-1)) dX5_best_48 (by decide) ?_
        replace h := Option.some.inj h
        obtain ⟨rfl, rfl⟩ := Prod.mk.inj h
        exact g_ireturn hX (Nat.le_refl _) (Nat.le_refl _) dX5_best_49
      · replace h := ifN c7 h
        refine g_aload_n hX (pc := 50) (i := 0) dX5_best_50 rfl 0 rfl ?_
        refine g_sipush hX (pc := 51) (v := 1000) dX5_best_51 (by decide) ?_
        obtain ⟨I8, e_I8, h⟩ := bnd h
        refine pf5_39 hX (pc := 54) ho0 fl_X5_328 dX5_best_54 e_I8 ?_
        refine g_aload_n hX (pc := 57) (i := 0) dX5_best_57 rfl 0 rfl ?_
        refine g_iload_n hX (pc := 58) (i := 2) dX5_best_58 rfl 2 rfl ?_
        refine g_iconst hX (pc := 59) (v := 0) dX5_best_59 (by decide) ?_
        refine g_iconst hX (pc := 60) (v := 0) dX5_best_60 (by decide) ?_
        obtain ⟨r9, e_r9, h⟩ := bnd h
        refine g_callVv hX (pc := 61) (d := d + 10) hr0 [.int r2, .int 0, .int 0] (c := 5) (ct_cast (d := d + 0 + 2 + 8) (by omega) (ct_X5_orders1 (d := d + 0) (k := 8) ho0 e_r9)) ho0.1.1 ho0.1.2 (by decide) rfl co_X5_orders1 ml_X5_334 im_X5_orders1 sl_X5_orders1 ini_X5 nm_X5_orders1 (by decide) ⟨Nat.le_refl _, Nat.le_refl _⟩ (Nat.le_refl _) (Nat.le_of_ble_eq_true rfl) rfl dX5_best_61 ?_
        refine g_iload_n hX (pc := 64) (i := 1) dX5_best_64 rfl 1 rfl ?_
        obtain ⟨p14, hpj11, h⟩ := bnd h
        have Kj11 : ∀ qj11 : Int32, qj11 = p14 → GW E X (QX E X 0 0 (some (.int rr)) z J Iz) 3 88 [(0, .ref o0), (1, .int x1), (2, .int r2)] [.int qj11] z J r9 0 0 := by
          intro qj11 hqj11
          subst hqj11
          replace h := Option.some.inj h
          obtain ⟨rfl, rfl⟩ := Prod.mk.inj h
          exact g_ireturn hX (Nat.le_refl _) (Nat.le_refl _) dX5_best_88
        replace h := hpj11
        clear hpj11
        refine g_if_ne hX (pc := 65) dX5_best_65 (tgt := 75) (by decide) (fun c10 => ?_) (fun c10 => ?_)
        · replace h := ifP c10 h
          refine g_aload_n hX (pc := 68) (i := 0) dX5_best_68 rfl 0 rfl ?_
          refine gf5_39 hX (pc := 69) ho0 fl_X5_328 dX5_best_69 ?_
          refine g_goto hX (pc := 72) (tgt := 88) dX5_best_72 (by decide) ?_
          exact Kj11 (r9 o0 39) (Option.some.inj h)
        · replace h := ifN c10 h
          refine g_aload_n hX (pc := 75) (i := 0) dX5_best_75 rfl 0 rfl ?_
          refine gf5_33 hX (pc := 76) ho0 fl_X5_64 dX5_best_76 ?_
          refine g_aload_n hX (pc := 79) (i := 0) dX5_best_79 rfl 0 rfl ?_
          refine gf5_38 hX (pc := 80) ho0 fl_X5_76 dX5_best_80 ?_
          refine g_iload_n hX (pc := 83) (i := 1) dX5_best_83 rfl 1 rfl ?_
          refine g_iconst hX (pc := 84) (v := 1) dX5_best_84 (by decide) ?_
          refine g_isub hX (pc := 85) dX5_best_85 ?_
          obtain ⟨v12, e_v12, h⟩ := bnd h
          refine g_ialoadE hX (pc := 86) (s5_38 ho0).1 (s5_38 ho0).2.1 (s5_38 ho0).2.2.1 e_v12 dX5_best_86 ?_
          obtain ⟨v13, e_v13, h⟩ := bnd h
          refine g_ialoadE hX (pc := 87) (s5_33 ho0).1 (s5_33 ho0).2.1 (s5_33 ho0).2.2.1 e_v13 dX5_best_87 ?_
          exact Kj11 v13 (Option.some.inj h)
noncomputable def b_X5_laysSizes_15 (o0 : Nat) (x1 : Int32) (J : MJ) (s : Int32 × MI) : Option ((Int32 × MI) ⊕ (Int32 × MI)) :=
  if s.1 = 0 then
    some (.inr ((s.1, s.2)))
  else
    (f_X5_waveOf o0 s.1 x1 J s.2).bind fun r8 =>
    (wf s.2 o0 40 ((s.2 o0 40) + 1)).bind fun I9 =>
    (f_X5_itemsOf o0 r8 J I9).bind fun r10 =>
    (f_X5_count1 r10).bind fun r11 =>
    (wf I9 o0 41 ((I9 o0 41) + r11)).bind fun I12 =>
    some (.inl ((s.1 &&& (r8 ^^^ ((-1))), I12)))
noncomputable def f_X5_laysSizes (o0 : Nat) (x1 : Int32) (J : MJ) (I : MI) : Option (MI) :=
  (wf I o0 40 0).bind fun I1 =>
  (wf I1 o0 41 0).bind fun I2 =>
  (f_X5_waiting o0 J I2).bind fun r3 =>
  (lp (b_X5_laysSizes_15 o0 x1 J) ((r3, I2))).bind fun p13 =>
  some p13.2
theorem nm_X5_laysSizes : yX5_laysSizes.cls ≠ "java/lang/invoke/MethodHandle" ∧ yX5_laysSizes.cls ≠ "java/lang/invoke/VarHandle" ∧ (parseMethodDescriptor yX5_laysSizes.desc).map (fun d => d.parameters.length) = some 1 := by decide +kernel
set_option maxRecDepth 100000 in
set_option maxHeartbeats 4000000 in
theorem ct_X5_laysSizes {E : Ev} {d : Nat} {z : Sh} {J : MJ} {I : MI} {o0 : Nat} {x1 : Int32} {Iz : MI} (ho0 : oX5 z o0) (h : f_X5_laysSizes o0 x1 J I = some Iz) : Ct E (d + 3) yX5_laysSizes cX5_laysSizes 4 none 0 0 [.ref o0, .int x1] z J I none z J Iz := by
  unfold f_X5_laysSizes at h
  refine Ct.of (own := RX5) (ls := [(0, .ref o0), (1, .int x1)]) (by decide) rfl (Nat.le_of_ble_eq_true rfl) rfl ?_
  intro X hr0 hnm hX
  refine g_aload_n hX (pc := 0) (i := 0) dX5_laysSizes_0 rfl 0 rfl ?_
  refine g_iconst hX (pc := 1) (v := 0) dX5_laysSizes_1 (by decide) ?_
  obtain ⟨I1, e_I1, h⟩ := bnd h
  refine pf5_40 hX (pc := 2) ho0 fl_X5_337 dX5_laysSizes_2 e_I1 ?_
  refine g_aload_n hX (pc := 5) (i := 0) dX5_laysSizes_5 rfl 0 rfl ?_
  refine g_iconst hX (pc := 6) (v := 0) dX5_laysSizes_6 (by decide) ?_
  obtain ⟨I2, e_I2, h⟩ := bnd h
  refine pf5_41 hX (pc := 7) ho0 fl_X5_340 dX5_laysSizes_7 e_I2 ?_
  refine g_aload_n hX (pc := 10) (i := 0) dX5_laysSizes_10 rfl 0 rfl ?_
  obtain ⟨r3, e_r3, h⟩ := bnd h
  refine g_callVi hX (pc := 11) (d := d + 2) hr0 [] (c := 5) (ct_X5_waiting (d := d + 2) ho0 e_r3) ho0.1.1 ho0.1.2 (by decide) rfl co_X5_waiting ml_X5_263 im_X5_waiting sl_X5_waiting ini_X5 nm_X5_waiting (by decide) ⟨Nat.le_refl _, Nat.le_refl _⟩ (Nat.le_refl _) (Nat.le_of_ble_eq_true rfl) rfl dX5_laysSizes_11 ?_
  refine g_istore_n hX (pc := 14) (i := 2) (ls' := [(0, .ref o0), (1, .int x1), (2, .int r3)]) [1, 2, 0] dX5_laysSizes_14 rfl (by decide) rfl ?_
  obtain ⟨p13, hpl6, h⟩ := bnd h
  have Kl6 : ∀ ql6 : Int32 × MI, ql6 = p13 → GW E X (QX E X 0 0 none z J Iz) 4 62 [(0, .ref o0), (1, .int x1), (2, .int ql6.1)] [] z J ql6.2 0 0 := by
    intro ql6 hql6
    subst hql6
    obtain rfl := Option.some.inj h
    exact g_return hX (Nat.le_refl _) (Nat.le_refl _) dX5_laysSizes_62
  obtain ⟨kl6, hkl6⟩ := lp_ex hpl6
  clear hpl6 h
  have Ll6 : ∀ k : Nat, ∀ (s4 : Int32) (I5 : MI), lpN k (b_X5_laysSizes_15 o0 x1 J) ((s4, I5)) = some p13 → GW E X (QX E X 0 0 none z J Iz) 4 15 [(0, .ref o0), (1, .int x1), (2, .int s4)] [] z J I5 0 0 := by
    intro k
    induction k with
    | zero => intro s4 I5 h; cases h
    | succ k ihl6 =>
      intro s4 I5 h
      obtain ⟨wl6, h, hwl6⟩ := lpN_s h
      unfold b_X5_laysSizes_15 at h
      try dsimp only at h
      refine g_iload_n hX (pc := 15) (i := 2) dX5_laysSizes_15 rfl 2 rfl ?_
      refine g_if_eq hX (pc := 16) dX5_laysSizes_16 (tgt := 62) (by decide) (fun c7 => ?_) (fun c7 => ?_)
      · replace h := ifP c7 h
        obtain rfl := Option.some.inj h
        exact Kl6 ((s4, I5)) hwl6
      · replace h := ifN c7 h
        refine g_aload_n hX (pc := 19) (i := 0) dX5_laysSizes_19 rfl 0 rfl ?_
        refine g_iload_n hX (pc := 20) (i := 2) dX5_laysSizes_20 rfl 2 rfl ?_
        refine g_iload_n hX (pc := 21) (i := 1) dX5_laysSizes_21 rfl 1 rfl ?_
        obtain ⟨r8, e_r8, h⟩ := bnd h
        refine g_callVi hX (pc := 22) (d := d + 2) hr0 [.int s4, .int x1] (c := 5) (ct_X5_waveOf (d := d + 0) ho0 e_r8) ho0.1.1 ho0.1.2 (by decide) rfl co_X5_waveOf ml_X5_266 im_X5_waveOf sl_X5_waveOf ini_X5 nm_X5_waveOf (by decide) ⟨Nat.le_refl _, Nat.le_refl _⟩ (Nat.le_refl _) (Nat.le_of_ble_eq_true rfl) rfl dX5_laysSizes_22 ?_
        refine g_istore_n hX (pc := 25) (i := 3) (ls' := [(0, .ref o0), (1, .int x1), (2, .int s4), (3, .int r8)]) [1, 2, 3, 0] dX5_laysSizes_25 rfl (by decide) rfl ?_
        refine g_iload_n hX (pc := 26) (i := 2) dX5_laysSizes_26 rfl 2 rfl ?_
        refine g_iload_n hX (pc := 27) (i := 3) dX5_laysSizes_27 rfl 3 rfl ?_
        refine g_iconst hX (pc := 28) (v := (-1)) dX5_laysSizes_28 (by decide) ?_
        refine g_ixor hX (pc := 29) dX5_laysSizes_29 ?_
        refine g_iand hX (pc := 30) dX5_laysSizes_30 ?_
        refine g_istore_n hX (pc := 31) (i := 2) (ls' := [(0, .ref o0), (1, .int x1), (2, .int (s4 &&& (r8 ^^^ ((-1))))), (3, .int r8)]) [1, 2, 0, 3] dX5_laysSizes_31 rfl (by decide) rfl ?_
        refine g_aload_n hX (pc := 32) (i := 0) dX5_laysSizes_32 rfl 0 rfl ?_
        refine g_dup hX (pc := 33) dX5_laysSizes_33 rfl ?_
        refine gf5_40 hX (pc := 34) ho0 fl_X5_337 dX5_laysSizes_34 ?_
        refine g_iconst hX (pc := 37) (v := 1) dX5_laysSizes_37 (by decide) ?_
        refine g_iadd hX (pc := 38) dX5_laysSizes_38 ?_
        obtain ⟨I9, e_I9, h⟩ := bnd h
        refine pf5_40 hX (pc := 39) ho0 fl_X5_337 dX5_laysSizes_39 e_I9 ?_
        refine g_aload_n hX (pc := 42) (i := 0) dX5_laysSizes_42 rfl 0 rfl ?_
        refine g_dup hX (pc := 43) dX5_laysSizes_43 rfl ?_
        refine gf5_41 hX (pc := 44) ho0 fl_X5_340 dX5_laysSizes_44 ?_
        refine g_aload_n hX (pc := 47) (i := 0) dX5_laysSizes_47 rfl 0 rfl ?_
        refine g_iload_n hX (pc := 48) (i := 3) dX5_laysSizes_48 rfl 3 rfl ?_
        obtain ⟨r10, e_r10, h⟩ := bnd h
        refine g_callVi hX (pc := 49) (d := d + 2) hr0 [.int r8] (c := 5) (ct_X5_itemsOf (d := d + 2) ho0 e_r10) ho0.1.1 ho0.1.2 (by decide) rfl co_X5_itemsOf ml_X5_250 im_X5_itemsOf sl_X5_itemsOf ini_X5 nm_X5_itemsOf (by decide) ⟨Nat.le_refl _, Nat.le_refl _⟩ (Nat.le_refl _) (Nat.le_of_ble_eq_true rfl) rfl dX5_laysSizes_49 ?_
        obtain ⟨r11, e_r11, h⟩ := bnd h
        refine g_callSi hX (pc := 52) (d := d + 2) hr0 [.int r10] (ct_X5_count1 (d := d + 2)  e_r11) co_X5_count1 ml_X5_253 sta_X5_count1 ini_X5 nm_X5_count1 (by decide) ⟨Nat.le_refl _, Nat.le_refl _⟩ (Nat.le_refl _) (Nat.le_of_ble_eq_true rfl) rfl dX5_laysSizes_52 ?_
        refine g_iadd hX (pc := 55) dX5_laysSizes_55 ?_
        obtain ⟨I12, e_I12, h⟩ := bnd h
        refine pf5_41 hX (pc := 56) ho0 fl_X5_340 dX5_laysSizes_56 e_I12 ?_
        refine g_goto hX (pc := 59) (tgt := 15) dX5_laysSizes_59 (by decide) ?_
        refine g_sub (ls' := [(0, .ref o0), (1, .int x1), (2, .int (s4 &&& (r8 ^^^ ((-1)))))]) [0, 1, 2] rfl ?_
        obtain rfl := Option.some.inj h
        exact ihl6 (s4 &&& (r8 ^^^ ((-1)))) I12 hwl6
  exact Ll6 kl6 r3 I2 hkl6
noncomputable def f_X5_sizes (o0 : Nat) (x1 : Int32) (x2 : Int32) (J : MJ) (I : MI) : Option (Int32 × MI) :=
  (wf I o0 0 0).bind fun I1 =>
  (f_X5_within x1.toInt64 1 8).bind fun r2 =>
  if r2 = 0 then
    some (((-1), I1))
  else
    (f_X5_within x2.toInt64 0 1).bind fun r4 =>
    if r4 = 0 then
      some (((-1), I1))
    else
      (f_X5_laysSizes o0 x1 J I1).bind fun r6 =>
      (if x2 = 0 then
        some (r6 o0 40)
      else
        some (r6 o0 41)).bind fun (p9 : Int32) =>
      some ((p9, r6))
theorem nm_X5_sizes : yX5_sizes.cls ≠ "java/lang/invoke/MethodHandle" ∧ yX5_sizes.cls ≠ "java/lang/invoke/VarHandle" ∧ (parseMethodDescriptor yX5_sizes.desc).map (fun d => d.parameters.length) = some 2 := by decide +kernel
set_option maxRecDepth 100000 in
set_option maxHeartbeats 4000000 in
theorem ct_X5_sizes {E : Ev} {d : Nat} {z : Sh} {J : MJ} {I : MI} {o0 : Nat} {x1 : Int32} {x2 : Int32} {rr : Int32} {Iz : MI} (ho0 : oX5 z o0) (h : f_X5_sizes o0 x1 x2 J I = some ((rr, Iz))) : Ct E (d + 4) yX5_sizes cX5_sizes 3 (some .int) 0 0 [.ref o0, .int x1, .int x2] z J I (some (.int rr)) z J Iz := by
  unfold f_X5_sizes at h
  refine Ct.of (own := RX5) (ls := [(0, .ref o0), (1, .int x1), (2, .int x2)]) (by decide) rfl (Nat.le_of_ble_eq_true rfl) rfl ?_
  intro X hr0 hnm hX
  refine g_aload_n hX (pc := 0) (i := 0) dX5_sizes_0 rfl 0 rfl ?_
  refine g_iconst hX (pc := 1) (v := 0) dX5_sizes_1 (by decide) ?_
  obtain ⟨I1, e_I1, h⟩ := bnd h
  refine pf5_0 hX (pc := 2) ho0 fl_X5_86 dX5_sizes_2 e_I1 ?_
  refine g_iload_n hX (pc := 5) (i := 1) dX5_sizes_5 rfl 1 rfl ?_
  refine g_i2l hX (pc := 6) dX5_sizes_6 ?_
  refine g_lconst hX (pc := 7) (v := 1) dX5_sizes_7 (by decide) ?_
  refine g_ldc2 hX (pc := 8) cst_X5_343 dX5_sizes_8 ?_
  obtain ⟨r2, e_r2, h⟩ := bnd h
  refine g_callSi hX (pc := 11) (d := d + 3) hr0 [.long x1.toInt64, .long 1, .long 8] (ct_X5_within (d := d + 3)  e_r2) co_X5_within ml_X5_123 sta_X5_within ini_X5 nm_X5_within (by decide) ⟨Nat.le_refl _, Nat.le_refl _⟩ (Nat.le_refl _) (Nat.le_of_ble_eq_true rfl) rfl dX5_sizes_11 ?_
  refine g_if_eq hX (pc := 14) dX5_sizes_14 (tgt := 27) (by decide) (fun c3 => ?_) (fun c3 => ?_)
  · replace h := ifP c3 h
    refine g_iconst hX (pc := 27) (v := (-1)) dX5_sizes_27 (by decide) ?_
    replace h := Option.some.inj h
    obtain ⟨rfl, rfl⟩ := Prod.mk.inj h
    exact g_ireturn hX (Nat.le_refl _) (Nat.le_refl _) dX5_sizes_28
  · replace h := ifN c3 h
    refine g_iload_n hX (pc := 17) (i := 2) dX5_sizes_17 rfl 2 rfl ?_
    refine g_i2l hX (pc := 18) dX5_sizes_18 ?_
    refine g_lconst hX (pc := 19) (v := 0) dX5_sizes_19 (by decide) ?_
    refine g_lconst hX (pc := 20) (v := 1) dX5_sizes_20 (by decide) ?_
    obtain ⟨r4, e_r4, h⟩ := bnd h
    refine g_callSi hX (pc := 21) (d := d + 3) hr0 [.long x2.toInt64, .long 0, .long 1] (ct_X5_within (d := d + 3)  e_r4) co_X5_within ml_X5_123 sta_X5_within ini_X5 nm_X5_within (by decide) ⟨Nat.le_refl _, Nat.le_refl _⟩ (Nat.le_refl _) (Nat.le_of_ble_eq_true rfl) rfl dX5_sizes_21 ?_
    refine g_if_ne hX (pc := 24) dX5_sizes_24 (tgt := 29) (by decide) (fun c5 => ?_) (fun c5 => ?_)
    · replace h := ifP c5 h
      refine g_iconst hX (pc := 27) (v := (-1)) dX5_sizes_27 (by decide) ?_
      replace h := Option.some.inj h
      obtain ⟨rfl, rfl⟩ := Prod.mk.inj h
      exact g_ireturn hX (Nat.le_refl _) (Nat.le_refl _) dX5_sizes_28
    · replace h := ifN c5 h
      refine g_aload_n hX (pc := 29) (i := 0) dX5_sizes_29 rfl 0 rfl ?_
      refine g_iload_n hX (pc := 30) (i := 1) dX5_sizes_30 rfl 1 rfl ?_
      obtain ⟨r6, e_r6, h⟩ := bnd h
      refine g_callVv hX (pc := 31) (d := d + 3) hr0 [.int x1] (c := 5) (ct_X5_laysSizes (d := d + 0) ho0 e_r6) ho0.1.1 ho0.1.2 (by decide) rfl co_X5_laysSizes ml_X5_345 im_X5_laysSizes sl_X5_laysSizes ini_X5 nm_X5_laysSizes (by decide) ⟨Nat.le_refl _, Nat.le_refl _⟩ (Nat.le_refl _) (Nat.le_of_ble_eq_true rfl) rfl dX5_sizes_31 ?_
      refine g_iload_n hX (pc := 34) (i := 2) dX5_sizes_34 rfl 2 rfl ?_
      obtain ⟨p9, hpj8, h⟩ := bnd h
      have Kj8 : ∀ qj8 : Int32, qj8 = p9 → GW E X (QX E X 0 0 (some (.int rr)) z J Iz) 3 49 [(0, .ref o0), (1, .int x1), (2, .int x2)] [.int qj8] z J r6 0 0 := by
        intro qj8 hqj8
        subst hqj8
        replace h := Option.some.inj h
        obtain ⟨rfl, rfl⟩ := Prod.mk.inj h
        exact g_ireturn hX (Nat.le_refl _) (Nat.le_refl _) dX5_sizes_49
      replace h := hpj8
      clear hpj8
      refine g_if_ne hX (pc := 35) dX5_sizes_35 (tgt := 45) (by decide) (fun c7 => ?_) (fun c7 => ?_)
      · replace h := ifP c7 h
        refine g_aload_n hX (pc := 38) (i := 0) dX5_sizes_38 rfl 0 rfl ?_
        refine gf5_40 hX (pc := 39) ho0 fl_X5_337 dX5_sizes_39 ?_
        refine g_goto hX (pc := 42) (tgt := 49) dX5_sizes_42 (by decide) ?_
        exact Kj8 (r6 o0 40) (Option.some.inj h)
      · replace h := ifN c7 h
        refine g_aload_n hX (pc := 45) (i := 0) dX5_sizes_45 rfl 0 rfl ?_
        refine gf5_41 hX (pc := 46) ho0 fl_X5_340 dX5_sizes_46 ?_
        exact Kj8 (r6 o0 41) (Option.some.inj h)
noncomputable def b_X5_bestSize_11 (o0 : Nat) (J : MJ) (s : Int32 × Int32 × Int32 × MI) : Option ((Int32 × Int32 × Int32 × MI) ⊕ (Int32 × Int32 × Int32 × MI)) :=
  if 8 < s.2.2.1 then
    some (.inr ((s.1, s.2.1, s.2.2.1, s.2.2.2)))
  else
    (f_X5_laysSizes o0 s.2.2.1 J s.2.2.2).bind fun r8 =>
    (if 0 < s.1 then
      if (r8 o0 41) < s.2.1 then
        some ((s.2.2.1, r8 o0 41))
      else
        some ((s.1, s.2.1))
    else
      some ((s.2.2.1, r8 o0 41))).bind fun (p12 : Int32 × Int32) =>
    some (.inl ((p12.1, p12.2, s.2.2.1 + 1, r8)))
noncomputable def f_X5_bestSize (o0 : Nat) (J : MJ) (I : MI) : Option (Int32 × MI) :=
  (wf I o0 0 0).bind fun I1 =>
  (lp (b_X5_bestSize_11 o0 J) ((0, 0, 1, I1))).bind fun p13 =>
  some ((p13.1, p13.2.2.2))
theorem nm_X5_bestSize : yX5_bestSize.cls ≠ "java/lang/invoke/MethodHandle" ∧ yX5_bestSize.cls ≠ "java/lang/invoke/VarHandle" ∧ (parseMethodDescriptor yX5_bestSize.desc).map (fun d => d.parameters.length) = some 0 := by decide +kernel
set_option maxRecDepth 100000 in
set_option maxHeartbeats 4000000 in
theorem ct_X5_bestSize {E : Ev} {d : Nat} {z : Sh} {J : MJ} {I : MI} {o0 : Nat} {rr : Int32} {Iz : MI} (ho0 : oX5 z o0) (h : f_X5_bestSize o0 J I = some ((rr, Iz))) : Ct E (d + 4) yX5_bestSize cX5_bestSize 4 (some .int) 0 0 [.ref o0] z J I (some (.int rr)) z J Iz := by
  unfold f_X5_bestSize at h
  refine Ct.of (own := RX5) (ls := [(0, .ref o0)]) (by decide) rfl (Nat.le_of_ble_eq_true rfl) rfl ?_
  intro X hr0 hnm hX
  refine g_aload_n hX (pc := 0) (i := 0) dX5_bestSize_0 rfl 0 rfl ?_
  refine g_iconst hX (pc := 1) (v := 0) dX5_bestSize_1 (by decide) ?_
  obtain ⟨I1, e_I1, h⟩ := bnd h
  refine pf5_0 hX (pc := 2) ho0 fl_X5_86 dX5_bestSize_2 e_I1 ?_
  refine g_iconst hX (pc := 5) (v := 0) dX5_bestSize_5 (by decide) ?_
  refine g_istore_n hX (pc := 6) (i := 1) (ls' := [(0, .ref o0), (1, .int 0)]) [1, 0] dX5_bestSize_6 rfl (by decide) rfl ?_
  refine g_iconst hX (pc := 7) (v := 0) dX5_bestSize_7 (by decide) ?_
  refine g_istore_n hX (pc := 8) (i := 2) (ls' := [(0, .ref o0), (1, .int 0), (2, .int 0)]) [1, 2, 0] dX5_bestSize_8 rfl (by decide) rfl ?_
  refine g_iconst hX (pc := 9) (v := 1) dX5_bestSize_9 (by decide) ?_
  refine g_istore_n hX (pc := 10) (i := 3) (ls' := [(0, .ref o0), (1, .int 0), (2, .int 0), (3, .int 1)]) [1, 2, 3, 0] dX5_bestSize_10 rfl (by decide) rfl ?_
  obtain ⟨p13, hpl6, h⟩ := bnd h
  have Kl6 : ∀ ql6 : Int32 × Int32 × Int32 × MI, ql6 = p13 → GW E X (QX E X 0 0 (some (.int rr)) z J Iz) 4 50 [(0, .ref o0), (1, .int ql6.1), (2, .int ql6.2.1), (3, .int ql6.2.2.1)] [] z J ql6.2.2.2 0 0 := by
    intro ql6 hql6
    subst hql6
    refine g_iload_n hX (pc := 50) (i := 1) dX5_bestSize_50 rfl 1 rfl ?_
    replace h := Option.some.inj h
    obtain ⟨rfl, rfl⟩ := Prod.mk.inj h
    exact g_ireturn hX (Nat.le_refl _) (Nat.le_refl _) dX5_bestSize_51
  obtain ⟨kl6, hkl6⟩ := lp_ex hpl6
  clear hpl6 h
  have Ll6 : ∀ k : Nat, ∀ (s2 : Int32) (s3 : Int32) (s4 : Int32) (I5 : MI), lpN k (b_X5_bestSize_11 o0 J) ((s2, s3, s4, I5)) = some p13 → GW E X (QX E X 0 0 (some (.int rr)) z J Iz) 4 11 [(0, .ref o0), (1, .int s2), (2, .int s3), (3, .int s4)] [] z J I5 0 0 := by
    intro k
    induction k with
    | zero => intro s2 s3 s4 I5 h; cases h
    | succ k ihl6 =>
      intro s2 s3 s4 I5 h
      obtain ⟨wl6, h, hwl6⟩ := lpN_s h
      unfold b_X5_bestSize_11 at h
      try dsimp only at h
      refine g_iload_n hX (pc := 11) (i := 3) dX5_bestSize_11 rfl 3 rfl ?_
      refine g_bipush hX (pc := 12) (v := 8) dX5_bestSize_12 (by decide) ?_
      refine g_icmp_gt hX (pc := 14) dX5_bestSize_14 (tgt := 50) (by decide) (fun c7 => ?_) (fun c7 => ?_)
      · replace h := ifP c7 h
        obtain rfl := Option.some.inj h
        exact Kl6 ((s2, s3, s4, I5)) hwl6
      · replace h := ifN c7 h
        refine g_aload_n hX (pc := 17) (i := 0) dX5_bestSize_17 rfl 0 rfl ?_
        refine g_iload_n hX (pc := 18) (i := 3) dX5_bestSize_18 rfl 3 rfl ?_
        obtain ⟨r8, e_r8, h⟩ := bnd h
        refine g_callVv hX (pc := 19) (d := d + 3) hr0 [.int s4] (c := 5) (ct_X5_laysSizes (d := d + 0) ho0 e_r8) ho0.1.1 ho0.1.2 (by decide) rfl co_X5_laysSizes ml_X5_345 im_X5_laysSizes sl_X5_laysSizes ini_X5 nm_X5_laysSizes (by decide) ⟨Nat.le_refl _, Nat.le_refl _⟩ (Nat.le_refl _) (Nat.le_of_ble_eq_true rfl) rfl dX5_bestSize_19 ?_
        refine g_iload_n hX (pc := 22) (i := 1) dX5_bestSize_22 rfl 1 rfl ?_
        obtain ⟨p12, hpj10, h⟩ := bnd h
        have Kj10 : ∀ qj10 : Int32 × Int32, qj10 = p12 → GW E X (QX E X 0 0 (some (.int rr)) z J Iz) 4 44 [(0, .ref o0), (1, .int qj10.1), (2, .int qj10.2), (3, .int s4)] [] z J r8 0 0 := by
          intro qj10 hqj10
          subst hqj10
          refine g_iinc hX (pc := 44) (i := 3) (v := s4 + 1) (ls' := [(0, .ref o0), (1, .int qj10.1), (2, .int qj10.2), (3, .int (s4 + 1))]) 3 [1, 2, 3, 0] dX5_bestSize_44 rfl (by rfl) (by decide) rfl ?_
          refine g_goto hX (pc := 47) (tgt := 11) dX5_bestSize_47 (by decide) ?_
          obtain rfl := Option.some.inj h
          exact ihl6 qj10.1 qj10.2 (s4 + 1) r8 hwl6
        replace h := hpj10
        clear hpj10
        refine g_if_le hX (pc := 23) dX5_bestSize_23 (tgt := 37) (by decide) (fun c9 => ?_) (fun c9 => ?_)
        · replace h := ifP c9 h
          refine g_aload_n hX (pc := 26) (i := 0) dX5_bestSize_26 rfl 0 rfl ?_
          refine gf5_41 hX (pc := 27) ho0 fl_X5_340 dX5_bestSize_27 ?_
          refine g_iload_n hX (pc := 30) (i := 2) dX5_bestSize_30 rfl 2 rfl ?_
          refine g_icmp_lt hX (pc := 31) dX5_bestSize_31 (tgt := 37) (by decide) (fun c11 => ?_) (fun c11 => ?_)
          · replace h := ifP c11 h
            refine g_iload_n hX (pc := 37) (i := 3) dX5_bestSize_37 rfl 3 rfl ?_
            refine g_istore_n hX (pc := 38) (i := 1) (ls' := [(0, .ref o0), (1, .int s4), (2, .int s3), (3, .int s4)]) [1, 0, 2, 3] dX5_bestSize_38 rfl (by decide) rfl ?_
            refine g_aload_n hX (pc := 39) (i := 0) dX5_bestSize_39 rfl 0 rfl ?_
            refine gf5_41 hX (pc := 40) ho0 fl_X5_340 dX5_bestSize_40 ?_
            refine g_istore_n hX (pc := 43) (i := 2) (ls' := [(0, .ref o0), (1, .int s4), (2, .int (r8 o0 41)), (3, .int s4)]) [1, 2, 0, 3] dX5_bestSize_43 rfl (by decide) rfl ?_
            exact Kj10 ((s4, r8 o0 41)) (Option.some.inj h)
          · replace h := ifN c11 h
            refine g_goto hX (pc := 34) (tgt := 44) dX5_bestSize_34 (by decide) ?_
            exact Kj10 ((s2, s3)) (Option.some.inj h)
        · replace h := ifN c9 h
          refine g_iload_n hX (pc := 37) (i := 3) dX5_bestSize_37 rfl 3 rfl ?_
          refine g_istore_n hX (pc := 38) (i := 1) (ls' := [(0, .ref o0), (1, .int s4), (2, .int s3), (3, .int s4)]) [1, 0, 2, 3] dX5_bestSize_38 rfl (by decide) rfl ?_
          refine g_aload_n hX (pc := 39) (i := 0) dX5_bestSize_39 rfl 0 rfl ?_
          refine gf5_41 hX (pc := 40) ho0 fl_X5_340 dX5_bestSize_40 ?_
          refine g_istore_n hX (pc := 43) (i := 2) (ls' := [(0, .ref o0), (1, .int s4), (2, .int (r8 o0 41)), (3, .int s4)]) [1, 2, 0, 3] dX5_bestSize_43 rfl (by decide) rfl ?_
          exact Kj10 ((s4, r8 o0 41)) (Option.some.inj h)
  exact Ll6 kl6 0 0 1 I1 hkl6
noncomputable def b_X5_wouldBe_7 (o0 : Nat) (s : Int32 × MI) : Option ((Int32 × MI) ⊕ (Int32 × MI)) :=
  if s.1 < 2117 then
    (rd 2117 (s.2 (o0 + 13)) s.1).bind fun v6 =>
    (wr 2117 s.2 (o0 + 17) s.1 v6).bind fun I7 =>
    some (.inl ((s.1 + 1, I7)))
  else
    some (.inr ((s.1, s.2)))
noncomputable def b_X5_wouldBe_51 (o0 : Nat) (s : Int32 × MI) : Option ((Int32 × MI) ⊕ (Int32 × MI)) :=
  if s.1 < 2117 then
    (rd 2117 (s.2 (o0 + 17)) s.1).bind fun v15 =>
    (wr 2117 s.2 (o0 + 13) s.1 v15).bind fun I16 =>
    some (.inl ((s.1 + 1, I16)))
  else
    some (.inr ((s.1, s.2)))
noncomputable def f_X5_wouldBe (o0 : Nat) (J : MJ) (I : MI) : Option (Int32 × MI) :=
  (wf I o0 0 0).bind fun I1 =>
  (lp (b_X5_wouldBe_7 o0) ((0, I1))).bind fun p8 =>
  (f_X5_goes o0 1000 J p8.2).bind fun r9 =>
  (rd 2117 (r9.2 (o0 + 13)) 2100).bind fun v10 =>
  (lp (b_X5_wouldBe_51 o0) ((0, r9.2))).bind fun p17 =>
  some ((v10, p17.2))
theorem nm_X5_wouldBe : yX5_wouldBe.cls ≠ "java/lang/invoke/MethodHandle" ∧ yX5_wouldBe.cls ≠ "java/lang/invoke/VarHandle" ∧ (parseMethodDescriptor yX5_wouldBe.desc).map (fun d => d.parameters.length) = some 0 := by decide +kernel
set_option maxRecDepth 100000 in
set_option maxHeartbeats 4000000 in
theorem ct_X5_wouldBe {E : Ev} {d : Nat} {z : Sh} {J : MJ} {I : MI} {o0 : Nat} {rr : Int32} {Iz : MI} (ho0 : oX5 z o0) (h : f_X5_wouldBe o0 J I = some ((rr, Iz))) : Ct E (d + 4) yX5_wouldBe cX5_wouldBe 3 (some .int) 0 0 [.ref o0] z J I (some (.int rr)) z J Iz := by
  unfold f_X5_wouldBe at h
  refine Ct.of (own := RX5) (ls := [(0, .ref o0)]) (by decide) rfl (Nat.le_of_ble_eq_true rfl) rfl ?_
  intro X hr0 hnm hX
  refine g_aload_n hX (pc := 0) (i := 0) dX5_wouldBe_0 rfl 0 rfl ?_
  refine g_iconst hX (pc := 1) (v := 0) dX5_wouldBe_1 (by decide) ?_
  obtain ⟨I1, e_I1, h⟩ := bnd h
  refine pf5_0 hX (pc := 2) ho0 fl_X5_86 dX5_wouldBe_2 e_I1 ?_
  refine g_iconst hX (pc := 5) (v := 0) dX5_wouldBe_5 (by decide) ?_
  refine g_istore_n hX (pc := 6) (i := 1) (ls' := [(0, .ref o0), (1, .int 0)]) [1, 0] dX5_wouldBe_6 rfl (by decide) rfl ?_
  obtain ⟨p8, hpl4, h⟩ := bnd h
  have Kl4 : ∀ ql4 : Int32 × MI, ql4 = p8 → GW E X (QX E X 0 0 (some (.int rr)) z J Iz) 3 32 [(0, .ref o0), (1, .int ql4.1)] [] z J ql4.2 0 0 := by
    intro ql4 hql4
    subst hql4
    refine g_aload_n hX (pc := 32) (i := 0) dX5_wouldBe_32 rfl 0 rfl ?_
    refine g_sipush hX (pc := 33) (v := 1000) dX5_wouldBe_33 (by decide) ?_
    obtain ⟨r9, e_r9, h⟩ := bnd h
    refine g_callVi hX (pc := 36) (d := d + 3) hr0 [.int 1000] (c := 5) (ct_X5_goes (d := d + 0) ho0 e_r9) ho0.1.1 ho0.1.2 (by decide) rfl co_X5_goes ml_X5_315 im_X5_goes sl_X5_goes ini_X5 nm_X5_goes (by decide) ⟨Nat.le_refl _, Nat.le_refl _⟩ (Nat.le_refl _) (Nat.le_of_ble_eq_true rfl) rfl dX5_wouldBe_36 ?_
    refine g_pop hX (pc := 39) dX5_wouldBe_39 rfl ?_
    refine g_aload_n hX (pc := 40) (i := 0) dX5_wouldBe_40 rfl 0 rfl ?_
    refine gf5_27 hX (pc := 41) ho0 fl_X5_48 dX5_wouldBe_41 ?_
    refine g_sipush hX (pc := 44) (v := 2100) dX5_wouldBe_44 (by decide) ?_
    obtain ⟨v10, e_v10, h⟩ := bnd h
    refine g_ialoadE hX (pc := 47) (s5_27 ho0).1 (s5_27 ho0).2.1 (s5_27 ho0).2.2.1 e_v10 dX5_wouldBe_47 ?_
    refine g_istore_n hX (pc := 48) (i := 1) (ls' := [(0, .ref o0), (1, .int v10)]) [1, 0] dX5_wouldBe_48 rfl (by decide) rfl ?_
    refine g_iconst hX (pc := 49) (v := 0) dX5_wouldBe_49 (by decide) ?_
    refine g_istore_n hX (pc := 50) (i := 2) (ls' := [(0, .ref o0), (1, .int v10), (2, .int 0)]) [1, 2, 0] dX5_wouldBe_50 rfl (by decide) rfl ?_
    obtain ⟨p17, hpl13, h⟩ := bnd h
    have Kl13 : ∀ ql13 : Int32 × MI, ql13 = p17 → GW E X (QX E X 0 0 (some (.int rr)) z J Iz) 3 76 [(0, .ref o0), (1, .int v10), (2, .int ql13.1)] [] z J ql13.2 0 0 := by
      intro ql13 hql13
      subst hql13
      refine g_iload_n hX (pc := 76) (i := 1) dX5_wouldBe_76 rfl 1 rfl ?_
      replace h := Option.some.inj h
      obtain ⟨rfl, rfl⟩ := Prod.mk.inj h
      exact g_ireturn hX (Nat.le_refl _) (Nat.le_refl _) dX5_wouldBe_77
    obtain ⟨kl13, hkl13⟩ := lp_ex hpl13
    clear hpl13 h
    have Ll13 : ∀ k : Nat, ∀ (s11 : Int32) (I12 : MI), lpN k (b_X5_wouldBe_51 o0) ((s11, I12)) = some p17 → GW E X (QX E X 0 0 (some (.int rr)) z J Iz) 3 51 [(0, .ref o0), (1, .int v10), (2, .int s11)] [] z J I12 0 0 := by
      intro k
      induction k with
      | zero => intro s11 I12 h; cases h
      | succ k ihl13 =>
        intro s11 I12 h
        obtain ⟨wl13, h, hwl13⟩ := lpN_s h
        unfold b_X5_wouldBe_51 at h
        try dsimp only at h
        refine g_iload_n hX (pc := 51) (i := 2) dX5_wouldBe_51 rfl 2 rfl ?_
        refine g_sipush hX (pc := 52) (v := 2117) dX5_wouldBe_52 (by decide) ?_
        refine g_icmp_ge hX (pc := 55) dX5_wouldBe_55 (tgt := 76) (by decide) (fun c14 => ?_) (fun c14 => ?_)
        · replace h := ifP c14 h
          refine g_aload_n hX (pc := 58) (i := 0) dX5_wouldBe_58 rfl 0 rfl ?_
          refine gf5_27 hX (pc := 59) ho0 fl_X5_48 dX5_wouldBe_59 ?_
          refine g_iload_n hX (pc := 62) (i := 2) dX5_wouldBe_62 rfl 2 rfl ?_
          refine g_aload_n hX (pc := 63) (i := 0) dX5_wouldBe_63 rfl 0 rfl ?_
          refine gf5_32 hX (pc := 64) ho0 fl_X5_61 dX5_wouldBe_64 ?_
          refine g_iload_n hX (pc := 67) (i := 2) dX5_wouldBe_67 rfl 2 rfl ?_
          obtain ⟨v15, e_v15, h⟩ := bnd h
          refine g_ialoadE hX (pc := 68) (s5_32 ho0).1 (s5_32 ho0).2.1 (s5_32 ho0).2.2.1 e_v15 dX5_wouldBe_68 ?_
          obtain ⟨I16, e_I16, h⟩ := bnd h
          refine g_iastoreE hX (pc := 69) (s5_27 ho0).1 (s5_27 ho0).2.1 (s5_27 ho0).2.2.1 e_I16 dX5_wouldBe_69 ?_
          refine g_iinc hX (pc := 70) (i := 2) (v := s11 + 1) (ls' := [(0, .ref o0), (1, .int v10), (2, .int (s11 + 1))]) 2 [1, 2, 0] dX5_wouldBe_70 rfl (by rfl) (by decide) rfl ?_
          refine g_goto hX (pc := 73) (tgt := 51) dX5_wouldBe_73 (by decide) ?_
          obtain rfl := Option.some.inj h
          exact ihl13 (s11 + 1) I16 hwl13
        · replace h := ifN c14 h
          obtain rfl := Option.some.inj h
          exact Kl13 ((s11, I12)) hwl13
    exact Ll13 kl13 0 r9.2 hkl13
  obtain ⟨kl4, hkl4⟩ := lp_ex hpl4
  clear hpl4 h
  have Ll4 : ∀ k : Nat, ∀ (s2 : Int32) (I3 : MI), lpN k (b_X5_wouldBe_7 o0) ((s2, I3)) = some p8 → GW E X (QX E X 0 0 (some (.int rr)) z J Iz) 3 7 [(0, .ref o0), (1, .int s2)] [] z J I3 0 0 := by
    intro k
    induction k with
    | zero => intro s2 I3 h; cases h
    | succ k ihl4 =>
      intro s2 I3 h
      obtain ⟨wl4, h, hwl4⟩ := lpN_s h
      unfold b_X5_wouldBe_7 at h
      try dsimp only at h
      refine g_iload_n hX (pc := 7) (i := 1) dX5_wouldBe_7 rfl 1 rfl ?_
      refine g_sipush hX (pc := 8) (v := 2117) dX5_wouldBe_8 (by decide) ?_
      refine g_icmp_ge hX (pc := 11) dX5_wouldBe_11 (tgt := 32) (by decide) (fun c5 => ?_) (fun c5 => ?_)
      · replace h := ifP c5 h
        refine g_aload_n hX (pc := 14) (i := 0) dX5_wouldBe_14 rfl 0 rfl ?_
        refine gf5_32 hX (pc := 15) ho0 fl_X5_61 dX5_wouldBe_15 ?_
        refine g_iload_n hX (pc := 18) (i := 1) dX5_wouldBe_18 rfl 1 rfl ?_
        refine g_aload_n hX (pc := 19) (i := 0) dX5_wouldBe_19 rfl 0 rfl ?_
        refine gf5_27 hX (pc := 20) ho0 fl_X5_48 dX5_wouldBe_20 ?_
        refine g_iload_n hX (pc := 23) (i := 1) dX5_wouldBe_23 rfl 1 rfl ?_
        obtain ⟨v6, e_v6, h⟩ := bnd h
        refine g_ialoadE hX (pc := 24) (s5_27 ho0).1 (s5_27 ho0).2.1 (s5_27 ho0).2.2.1 e_v6 dX5_wouldBe_24 ?_
        obtain ⟨I7, e_I7, h⟩ := bnd h
        refine g_iastoreE hX (pc := 25) (s5_32 ho0).1 (s5_32 ho0).2.1 (s5_32 ho0).2.2.1 e_I7 dX5_wouldBe_25 ?_
        refine g_iinc hX (pc := 26) (i := 1) (v := s2 + 1) (ls' := [(0, .ref o0), (1, .int (s2 + 1))]) 1 [1, 0] dX5_wouldBe_26 rfl (by rfl) (by decide) rfl ?_
        refine g_goto hX (pc := 29) (tgt := 7) dX5_wouldBe_29 (by decide) ?_
        obtain rfl := Option.some.inj h
        exact ihl4 (s2 + 1) I7 hwl4
      · replace h := ifN c5 h
        obtain rfl := Option.some.inj h
        exact Kl4 ((s2, I3)) hwl4
  exact Ll4 kl4 0 I1 hkl4
noncomputable def b_X5_undo_26 (o0 : Nat) (s : Int32 × MI) : Option ((Int32 × MI) ⊕ (Int32 × MI)) :=
  if s.1 < 2117 then
    (rd 25404 (s.2 (o0 + 14)) ((2117 * (s.2 o0 29)) + s.1)).bind fun v8 =>
    (wr 2117 s.2 (o0 + 13) s.1 v8).bind fun I9 =>
    some (.inl ((s.1 + 1, I9)))
  else
    some (.inr ((s.1, s.2)))
noncomputable def f_X5_undo (o0 : Nat) (J : MJ) (I : MI) : Option (Int32 × MI) :=
  (wf I o0 0 0).bind fun I1 =>
  if (I1 o0 29) = 0 then
    some (((-1), I1))
  else
    (wf I1 o0 29 ((I1 o0 29) - 1)).bind fun I3 =>
    (lp (b_X5_undo_26 o0) ((0, I3))).bind fun p10 =>
    some ((p10.2 o0 29, p10.2))
theorem nm_X5_undo : yX5_undo.cls ≠ "java/lang/invoke/MethodHandle" ∧ yX5_undo.cls ≠ "java/lang/invoke/VarHandle" ∧ (parseMethodDescriptor yX5_undo.desc).map (fun d => d.parameters.length) = some 0 := by decide +kernel
set_option maxRecDepth 100000 in
set_option maxHeartbeats 4000000 in
theorem ct_X5_undo {E : Ev} {d : Nat} {z : Sh} {J : MJ} {I : MI} {o0 : Nat} {rr : Int32} {Iz : MI} (ho0 : oX5 z o0) (h : f_X5_undo o0 J I = some ((rr, Iz))) : Ct E (d + 0) yX5_undo cX5_undo 2 (some .int) 0 0 [.ref o0] z J I (some (.int rr)) z J Iz := by
  unfold f_X5_undo at h
  refine Ct.of (own := RX5) (ls := [(0, .ref o0)]) (by decide) rfl (Nat.le_of_ble_eq_true rfl) rfl ?_
  intro X hr0 hnm hX
  refine g_aload_n hX (pc := 0) (i := 0) dX5_undo_0 rfl 0 rfl ?_
  refine g_iconst hX (pc := 1) (v := 0) dX5_undo_1 (by decide) ?_
  obtain ⟨I1, e_I1, h⟩ := bnd h
  refine pf5_0 hX (pc := 2) ho0 fl_X5_86 dX5_undo_2 e_I1 ?_
  refine g_aload_n hX (pc := 5) (i := 0) dX5_undo_5 rfl 0 rfl ?_
  refine gf5_29 hX (pc := 6) ho0 fl_X5_222 dX5_undo_6 ?_
  refine g_if_ne hX (pc := 9) dX5_undo_9 (tgt := 14) (by decide) (fun c2 => ?_) (fun c2 => ?_)
  · replace h := ifP c2 h
    refine g_iconst hX (pc := 12) (v := (-1)) dX5_undo_12 (by decide) ?_
    replace h := Option.some.inj h
    obtain ⟨rfl, rfl⟩ := Prod.mk.inj h
    exact g_ireturn hX (Nat.le_refl _) (Nat.le_refl _) dX5_undo_13
  · replace h := ifN c2 h
    refine g_aload_n hX (pc := 14) (i := 0) dX5_undo_14 rfl 0 rfl ?_
    refine g_dup hX (pc := 15) dX5_undo_15 rfl ?_
    refine gf5_29 hX (pc := 16) ho0 fl_X5_222 dX5_undo_16 ?_
    refine g_iconst hX (pc := 19) (v := 1) dX5_undo_19 (by decide) ?_
    refine g_isub hX (pc := 20) dX5_undo_20 ?_
    obtain ⟨I3, e_I3, h⟩ := bnd h
    refine pf5_29 hX (pc := 21) ho0 fl_X5_222 dX5_undo_21 e_I3 ?_
    refine g_iconst hX (pc := 24) (v := 0) dX5_undo_24 (by decide) ?_
    refine g_istore_n hX (pc := 25) (i := 1) (ls' := [(0, .ref o0), (1, .int 0)]) [1, 0] dX5_undo_25 rfl (by decide) rfl ?_
    obtain ⟨p10, hpl6, h⟩ := bnd h
    have Kl6 : ∀ ql6 : Int32 × MI, ql6 = p10 → GW E X (QX E X 0 0 (some (.int rr)) z J Iz) 2 60 [(0, .ref o0), (1, .int ql6.1)] [] z J ql6.2 0 0 := by
      intro ql6 hql6
      subst hql6
      refine g_aload_n hX (pc := 60) (i := 0) dX5_undo_60 rfl 0 rfl ?_
      refine gf5_29 hX (pc := 61) ho0 fl_X5_222 dX5_undo_61 ?_
      replace h := Option.some.inj h
      obtain ⟨rfl, rfl⟩ := Prod.mk.inj h
      exact g_ireturn hX (Nat.le_refl _) (Nat.le_refl _) dX5_undo_64
    obtain ⟨kl6, hkl6⟩ := lp_ex hpl6
    clear hpl6 h
    have Ll6 : ∀ k : Nat, ∀ (s4 : Int32) (I5 : MI), lpN k (b_X5_undo_26 o0) ((s4, I5)) = some p10 → GW E X (QX E X 0 0 (some (.int rr)) z J Iz) 2 26 [(0, .ref o0), (1, .int s4)] [] z J I5 0 0 := by
      intro k
      induction k with
      | zero => intro s4 I5 h; cases h
      | succ k ihl6 =>
        intro s4 I5 h
        obtain ⟨wl6, h, hwl6⟩ := lpN_s h
        unfold b_X5_undo_26 at h
        try dsimp only at h
        refine g_iload_n hX (pc := 26) (i := 1) dX5_undo_26 rfl 1 rfl ?_
        refine g_sipush hX (pc := 27) (v := 2117) dX5_undo_27 (by decide) ?_
        refine g_icmp_ge hX (pc := 30) dX5_undo_30 (tgt := 60) (by decide) (fun c7 => ?_) (fun c7 => ?_)
        · replace h := ifP c7 h
          refine g_aload_n hX (pc := 33) (i := 0) dX5_undo_33 rfl 0 rfl ?_
          refine gf5_27 hX (pc := 34) ho0 fl_X5_48 dX5_undo_34 ?_
          refine g_iload_n hX (pc := 37) (i := 1) dX5_undo_37 rfl 1 rfl ?_
          refine g_aload_n hX (pc := 38) (i := 0) dX5_undo_38 rfl 0 rfl ?_
          refine gf5_28 hX (pc := 39) ho0 fl_X5_51 dX5_undo_39 ?_
          refine g_sipush hX (pc := 42) (v := 2117) dX5_undo_42 (by decide) ?_
          refine g_aload_n hX (pc := 45) (i := 0) dX5_undo_45 rfl 0 rfl ?_
          refine gf5_29 hX (pc := 46) ho0 fl_X5_222 dX5_undo_46 ?_
          refine g_imul hX (pc := 49) dX5_undo_49 ?_
          refine g_iload_n hX (pc := 50) (i := 1) dX5_undo_50 rfl 1 rfl ?_
          refine g_iadd hX (pc := 51) dX5_undo_51 ?_
          obtain ⟨v8, e_v8, h⟩ := bnd h
          refine g_ialoadE hX (pc := 52) (s5_28 ho0).1 (s5_28 ho0).2.1 (s5_28 ho0).2.2.1 e_v8 dX5_undo_52 ?_
          obtain ⟨I9, e_I9, h⟩ := bnd h
          refine g_iastoreE hX (pc := 53) (s5_27 ho0).1 (s5_27 ho0).2.1 (s5_27 ho0).2.2.1 e_I9 dX5_undo_53 ?_
          refine g_iinc hX (pc := 54) (i := 1) (v := s4 + 1) (ls' := [(0, .ref o0), (1, .int (s4 + 1))]) 1 [1, 0] dX5_undo_54 rfl (by rfl) (by decide) rfl ?_
          refine g_goto hX (pc := 57) (tgt := 26) dX5_undo_57 (by decide) ?_
          obtain rfl := Option.some.inj h
          exact ihl6 (s4 + 1) I9 hwl6
        · replace h := ifN c7 h
          obtain rfl := Option.some.inj h
          exact Kl6 ((s4, I5)) hwl6
    exact Ll6 kl6 0 I3 hkl6
noncomputable def b_X5_keep_32 (o0 : Nat) (x1 : Int32) (x2 : Int32) (s : Int32 × MI) : Option ((Int32 × MI) ⊕ (Int32 × MI)) :=
  if s.1 < 2117 then
    (if x2 = 0 then
      (rd 2117 (s.2 (o0 + 13)) s.1).bind fun v11 =>
      (wr 4234 s.2 (o0 + 15) ((2117 * x1) + s.1) v11).bind fun I12 =>
      some I12
    else
      (rd 4234 (s.2 (o0 + 15)) ((2117 * x1) + s.1)).bind fun v13 =>
      (wr 2117 s.2 (o0 + 13) s.1 v13).bind fun I14 =>
      some I14).bind fun (p15 : MI) =>
    some (.inl ((s.1 + 1, p15)))
  else
    some (.inr ((s.1, s.2)))
noncomputable def b_X5_keep_32q (o0 : Nat) (x1 : Int32) (x2 : Int32) (s : Int32 × MI) : Option ((Int32 × MI) ⊕ (Int32 × MI)) :=
  if s.1 < 2117 then
    (if x2 = 0 then
      (rd 2117 (s.2 (o0 + 13)) s.1).bind fun v30 =>
      (wr 4234 s.2 (o0 + 15) ((2117 * x1) + s.1) v30).bind fun I31 =>
      some I31
    else
      (rd 4234 (s.2 (o0 + 15)) ((2117 * x1) + s.1)).bind fun v32 =>
      (wr 2117 s.2 (o0 + 13) s.1 v32).bind fun I33 =>
      some I33).bind fun (p34 : MI) =>
    some (.inl ((s.1 + 1, p34)))
  else
    some (.inr ((s.1, s.2)))
noncomputable def f_X5_keep (o0 : Nat) (x1 : Int32) (x2 : Int32) (J : MJ) (I : MI) : Option (Int32 × MI) :=
  (wf I o0 0 0).bind fun I1 =>
  (f_X5_within x1.toInt64 0 1).bind fun r2 =>
  if r2 = 0 then
    some ((0, I1))
  else
    if x2 = 0 then
      (lp (b_X5_keep_32 o0 x1 x2) ((0, I1))).bind fun p16 =>
      (if x2 = 0 then
        (wr 2 p16.2 (o0 + 16) x1 1).bind fun I19 =>
        some I19
      else
        (wf p16.2 o0 29 0).bind fun I20 =>
        some I20).bind fun (p21 : MI) =>
      some ((1, p21))
    else
      (rd 2 (I1 (o0 + 16)) x1).bind fun v22 =>
      if v22 = 0 then
        some ((0, I1))
      else
        (lp (b_X5_keep_32q o0 x1 x2) ((0, I1))).bind fun p35 =>
        (if x2 = 0 then
          (wr 2 p35.2 (o0 + 16) x1 1).bind fun I38 =>
          some I38
        else
          (wf p35.2 o0 29 0).bind fun I39 =>
          some I39).bind fun (p40 : MI) =>
        some ((1, p40))
theorem nm_X5_keep : yX5_keep.cls ≠ "java/lang/invoke/MethodHandle" ∧ yX5_keep.cls ≠ "java/lang/invoke/VarHandle" ∧ (parseMethodDescriptor yX5_keep.desc).map (fun d => d.parameters.length) = some 2 := by decide +kernel
set_option maxRecDepth 100000 in
set_option maxHeartbeats 4000000 in
theorem ct_X5_keep {E : Ev} {d : Nat} {z : Sh} {J : MJ} {I : MI} {o0 : Nat} {x1 : Int32} {x2 : Int32} {rr : Int32} {Iz : MI} (ho0 : oX5 z o0) (h : f_X5_keep o0 x1 x2 J I = some ((rr, Iz))) : Ct E (d + 1) yX5_keep cX5_keep 4 (some .boolean) 0 0 [.ref o0, .int x1, .int x2] z J I (some (.int rr)) z J Iz := by
  unfold f_X5_keep at h
  refine Ct.of (own := RX5) (ls := [(0, .ref o0), (1, .int x1), (2, .int x2)]) (by decide) rfl (Nat.le_of_ble_eq_true rfl) rfl ?_
  intro X hr0 hnm hX
  refine g_aload_n hX (pc := 0) (i := 0) dX5_keep_0 rfl 0 rfl ?_
  refine g_iconst hX (pc := 1) (v := 0) dX5_keep_1 (by decide) ?_
  obtain ⟨I1, e_I1, h⟩ := bnd h
  refine pf5_0 hX (pc := 2) ho0 fl_X5_86 dX5_keep_2 e_I1 ?_
  refine g_iload_n hX (pc := 5) (i := 1) dX5_keep_5 rfl 1 rfl ?_
  refine g_i2l hX (pc := 6) dX5_keep_6 ?_
  refine g_lconst hX (pc := 7) (v := 0) dX5_keep_7 (by decide) ?_
  refine g_lconst hX (pc := 8) (v := 1) dX5_keep_8 (by decide) ?_
  obtain ⟨r2, e_r2, h⟩ := bnd h
  refine g_callSi hX (pc := 9) (d := d + 0) hr0 [.long x1.toInt64, .long 0, .long 1] (ct_X5_within (d := d + 0)  e_r2) co_X5_within ml_X5_123 sta_X5_within ini_X5 nm_X5_within (by decide) ⟨Nat.le_refl _, Nat.le_refl _⟩ (Nat.le_refl _) (Nat.le_of_ble_eq_true rfl) rfl dX5_keep_9 ?_
  refine g_if_eq hX (pc := 12) dX5_keep_12 (tgt := 28) (by decide) (fun c3 => ?_) (fun c3 => ?_)
  · replace h := ifP c3 h
    refine g_iconst hX (pc := 28) (v := 0) dX5_keep_28 (by decide) ?_
    replace h := Option.some.inj h
    obtain ⟨rfl, rfl⟩ := Prod.mk.inj h
    exact g_zreturn hX (Or.inl rfl) (Nat.le_refl _) (Nat.le_refl _) dX5_keep_29
  · replace h := ifN c3 h
    refine g_iload_n hX (pc := 15) (i := 2) dX5_keep_15 rfl 2 rfl ?_
    refine g_if_eq hX (pc := 16) dX5_keep_16 (tgt := 30) (by decide) (fun c4 => ?_) (fun c4 => ?_)
    · replace h := ifP c4 h
      refine g_iconst hX (pc := 30) (v := 0) dX5_keep_30 (by decide) ?_
      refine g_istore_n hX (pc := 31) (i := 3) (ls' := [(0, .ref o0), (1, .int x1), (2, .int x2), (3, .int 0)]) [1, 2, 3, 0] dX5_keep_31 rfl (by decide) rfl ?_
      obtain ⟨p16, hpl7, h⟩ := bnd h
      have Kl7 : ∀ ql7 : Int32 × MI, ql7 = p16 → GW E X (QX E X 0 0 (some (.int rr)) z J Iz) 4 88 [(0, .ref o0), (1, .int x1), (2, .int x2), (3, .int ql7.1)] [] z J ql7.2 0 0 := by
        intro ql7 hql7
        subst hql7
        refine g_iload_n hX (pc := 88) (i := 2) dX5_keep_88 rfl 2 rfl ?_
        obtain ⟨p21, hpj18, h⟩ := bnd h
        have Kj18 : ∀ qj18 : MI, qj18 = p21 → GW E X (QX E X 0 0 (some (.int rr)) z J Iz) 4 107 [(0, .ref o0), (1, .int x1), (2, .int x2), (3, .int ql7.1)] [] z J qj18 0 0 := by
          intro qj18 hqj18
          subst hqj18
          refine g_iconst hX (pc := 107) (v := 1) dX5_keep_107 (by decide) ?_
          replace h := Option.some.inj h
          obtain ⟨rfl, rfl⟩ := Prod.mk.inj h
          exact g_zreturn hX (Or.inr rfl) (Nat.le_refl _) (Nat.le_refl _) dX5_keep_108
        replace h := hpj18
        clear hpj18
        refine g_if_eq hX (pc := 89) dX5_keep_89 (tgt := 100) (by decide) (fun c17 => ?_) (fun c17 => ?_)
        · replace h := ifP c17 h
          refine g_aload_n hX (pc := 100) (i := 0) dX5_keep_100 rfl 0 rfl ?_
          refine gf5_31 hX (pc := 101) ho0 fl_X5_57 dX5_keep_101 ?_
          refine g_iload_n hX (pc := 104) (i := 1) dX5_keep_104 rfl 1 rfl ?_
          refine g_iconst hX (pc := 105) (v := 1) dX5_keep_105 (by decide) ?_
          obtain ⟨I19, e_I19, h⟩ := bnd h
          refine g_zastoreE hX (pc := 106) (s5_31 ho0).1 (s5_31 ho0).2.1 (s5_31 ho0).2.2.1 e_I19 (by decide) dX5_keep_106 ?_
          exact Kj18 I19 (Option.some.inj h)
        · replace h := ifN c17 h
          refine g_aload_n hX (pc := 92) (i := 0) dX5_keep_92 rfl 0 rfl ?_
          refine g_iconst hX (pc := 93) (v := 0) dX5_keep_93 (by decide) ?_
          obtain ⟨I20, e_I20, h⟩ := bnd h
          refine pf5_29 hX (pc := 94) ho0 fl_X5_222 dX5_keep_94 e_I20 ?_
          refine g_goto hX (pc := 97) (tgt := 107) dX5_keep_97 (by decide) ?_
          exact Kj18 I20 (Option.some.inj h)
      obtain ⟨kl7, hkl7⟩ := lp_ex hpl7
      clear hpl7 h
      have Ll7 : ∀ k : Nat, ∀ (s5 : Int32) (I6 : MI), lpN k (b_X5_keep_32 o0 x1 x2) ((s5, I6)) = some p16 → GW E X (QX E X 0 0 (some (.int rr)) z J Iz) 4 32 [(0, .ref o0), (1, .int x1), (2, .int x2), (3, .int s5)] [] z J I6 0 0 := by
        intro k
        induction k with
        | zero => intro s5 I6 h; cases h
        | succ k ihl7 =>
          intro s5 I6 h
          obtain ⟨wl7, h, hwl7⟩ := lpN_s h
          unfold b_X5_keep_32 at h
          try dsimp only at h
          refine g_iload_n hX (pc := 32) (i := 3) dX5_keep_32 rfl 3 rfl ?_
          refine g_sipush hX (pc := 33) (v := 2117) dX5_keep_33 (by decide) ?_
          refine g_icmp_ge hX (pc := 36) dX5_keep_36 (tgt := 88) (by decide) (fun c8 => ?_) (fun c8 => ?_)
          · replace h := ifP c8 h
            refine g_iload_n hX (pc := 39) (i := 2) dX5_keep_39 rfl 2 rfl ?_
            obtain ⟨p15, hpj10, h⟩ := bnd h
            have Kj10 : ∀ qj10 : MI, qj10 = p15 → GW E X (QX E X 0 0 (some (.int rr)) z J Iz) 4 82 [(0, .ref o0), (1, .int x1), (2, .int x2), (3, .int s5)] [] z J qj10 0 0 := by
              intro qj10 hqj10
              subst hqj10
              refine g_iinc hX (pc := 82) (i := 3) (v := s5 + 1) (ls' := [(0, .ref o0), (1, .int x1), (2, .int x2), (3, .int (s5 + 1))]) 3 [1, 2, 3, 0] dX5_keep_82 rfl (by rfl) (by decide) rfl ?_
              refine g_goto hX (pc := 85) (tgt := 32) dX5_keep_85 (by decide) ?_
              obtain rfl := Option.some.inj h
              exact ihl7 (s5 + 1) qj10 hwl7
            replace h := hpj10
            clear hpj10
            refine g_if_eq hX (pc := 40) dX5_keep_40 (tgt := 64) (by decide) (fun c9 => ?_) (fun c9 => ?_)
            · replace h := ifP c9 h
              refine g_aload_n hX (pc := 64) (i := 0) dX5_keep_64 rfl 0 rfl ?_
              refine gf5_30 hX (pc := 65) ho0 fl_X5_54 dX5_keep_65 ?_
              refine g_sipush hX (pc := 68) (v := 2117) dX5_keep_68 (by decide) ?_
              refine g_iload_n hX (pc := 71) (i := 1) dX5_keep_71 rfl 1 rfl ?_
              refine g_imul hX (pc := 72) dX5_keep_72 ?_
              refine g_iload_n hX (pc := 73) (i := 3) dX5_keep_73 rfl 3 rfl ?_
              refine g_iadd hX (pc := 74) dX5_keep_74 ?_
              refine g_aload_n hX (pc := 75) (i := 0) dX5_keep_75 rfl 0 rfl ?_
              refine gf5_27 hX (pc := 76) ho0 fl_X5_48 dX5_keep_76 ?_
              refine g_iload_n hX (pc := 79) (i := 3) dX5_keep_79 rfl 3 rfl ?_
              obtain ⟨v11, e_v11, h⟩ := bnd h
              refine g_ialoadE hX (pc := 80) (s5_27 ho0).1 (s5_27 ho0).2.1 (s5_27 ho0).2.2.1 e_v11 dX5_keep_80 ?_
              obtain ⟨I12, e_I12, h⟩ := bnd h
              refine g_iastoreE hX (pc := 81) (s5_30 ho0).1 (s5_30 ho0).2.1 (s5_30 ho0).2.2.1 e_I12 dX5_keep_81 ?_
              exact Kj10 I12 (Option.some.inj h)
            · replace h := ifN c9 h
              refine g_aload_n hX (pc := 43) (i := 0) dX5_keep_43 rfl 0 rfl ?_
              refine gf5_27 hX (pc := 44) ho0 fl_X5_48 dX5_keep_44 ?_
              refine g_iload_n hX (pc := 47) (i := 3) dX5_keep_47 rfl 3 rfl ?_
              refine g_aload_n hX (pc := 48) (i := 0) dX5_keep_48 rfl 0 rfl ?_
              refine gf5_30 hX (pc := 49) ho0 fl_X5_54 dX5_keep_49 ?_
              refine g_sipush hX (pc := 52) (v := 2117) dX5_keep_52 (by decide) ?_
              refine g_iload_n hX (pc := 55) (i := 1) dX5_keep_55 rfl 1 rfl ?_
              refine g_imul hX (pc := 56) dX5_keep_56 ?_
              refine g_iload_n hX (pc := 57) (i := 3) dX5_keep_57 rfl 3 rfl ?_
              refine g_iadd hX (pc := 58) dX5_keep_58 ?_
              obtain ⟨v13, e_v13, h⟩ := bnd h
              refine g_ialoadE hX (pc := 59) (s5_30 ho0).1 (s5_30 ho0).2.1 (s5_30 ho0).2.2.1 e_v13 dX5_keep_59 ?_
              obtain ⟨I14, e_I14, h⟩ := bnd h
              refine g_iastoreE hX (pc := 60) (s5_27 ho0).1 (s5_27 ho0).2.1 (s5_27 ho0).2.2.1 e_I14 dX5_keep_60 ?_
              refine g_goto hX (pc := 61) (tgt := 82) dX5_keep_61 (by decide) ?_
              exact Kj10 I14 (Option.some.inj h)
          · replace h := ifN c8 h
            obtain rfl := Option.some.inj h
            exact Kl7 ((s5, I6)) hwl7
      exact Ll7 kl7 0 I1 hkl7
    · replace h := ifN c4 h
      refine g_aload_n hX (pc := 19) (i := 0) dX5_keep_19 rfl 0 rfl ?_
      refine gf5_31 hX (pc := 20) ho0 fl_X5_57 dX5_keep_20 ?_
      refine g_iload_n hX (pc := 23) (i := 1) dX5_keep_23 rfl 1 rfl ?_
      obtain ⟨v22, e_v22, h⟩ := bnd h
      refine g_zaloadE hX (pc := 24) (s5_31 ho0).1 (s5_31 ho0).2.1 (s5_31 ho0).2.2.1 e_v22 dX5_keep_24 ?_
      refine g_if_ne hX (pc := 25) dX5_keep_25 (tgt := 30) (by decide) (fun c23 => ?_) (fun c23 => ?_)
      · replace h := ifP c23 h
        refine g_iconst hX (pc := 28) (v := 0) dX5_keep_28 (by decide) ?_
        replace h := Option.some.inj h
        obtain ⟨rfl, rfl⟩ := Prod.mk.inj h
        exact g_zreturn hX (Or.inl rfl) (Nat.le_refl _) (Nat.le_refl _) dX5_keep_29
      · replace h := ifN c23 h
        refine g_iconst hX (pc := 30) (v := 0) dX5_keep_30 (by decide) ?_
        refine g_istore_n hX (pc := 31) (i := 3) (ls' := [(0, .ref o0), (1, .int x1), (2, .int x2), (3, .int 0)]) [1, 2, 3, 0] dX5_keep_31 rfl (by decide) rfl ?_
        obtain ⟨p35, hpl26, h⟩ := bnd h
        have Kl26 : ∀ ql26 : Int32 × MI, ql26 = p35 → GW E X (QX E X 0 0 (some (.int rr)) z J Iz) 4 88 [(0, .ref o0), (1, .int x1), (2, .int x2), (3, .int ql26.1)] [] z J ql26.2 0 0 := by
          intro ql26 hql26
          subst hql26
          refine g_iload_n hX (pc := 88) (i := 2) dX5_keep_88 rfl 2 rfl ?_
          obtain ⟨p40, hpj37, h⟩ := bnd h
          have Kj37 : ∀ qj37 : MI, qj37 = p40 → GW E X (QX E X 0 0 (some (.int rr)) z J Iz) 4 107 [(0, .ref o0), (1, .int x1), (2, .int x2), (3, .int ql26.1)] [] z J qj37 0 0 := by
            intro qj37 hqj37
            subst hqj37
            refine g_iconst hX (pc := 107) (v := 1) dX5_keep_107 (by decide) ?_
            replace h := Option.some.inj h
            obtain ⟨rfl, rfl⟩ := Prod.mk.inj h
            exact g_zreturn hX (Or.inr rfl) (Nat.le_refl _) (Nat.le_refl _) dX5_keep_108
          replace h := hpj37
          clear hpj37
          refine g_if_eq hX (pc := 89) dX5_keep_89 (tgt := 100) (by decide) (fun c36 => ?_) (fun c36 => ?_)
          · replace h := ifP c36 h
            refine g_aload_n hX (pc := 100) (i := 0) dX5_keep_100 rfl 0 rfl ?_
            refine gf5_31 hX (pc := 101) ho0 fl_X5_57 dX5_keep_101 ?_
            refine g_iload_n hX (pc := 104) (i := 1) dX5_keep_104 rfl 1 rfl ?_
            refine g_iconst hX (pc := 105) (v := 1) dX5_keep_105 (by decide) ?_
            obtain ⟨I38, e_I38, h⟩ := bnd h
            refine g_zastoreE hX (pc := 106) (s5_31 ho0).1 (s5_31 ho0).2.1 (s5_31 ho0).2.2.1 e_I38 (by decide) dX5_keep_106 ?_
            exact Kj37 I38 (Option.some.inj h)
          · replace h := ifN c36 h
            refine g_aload_n hX (pc := 92) (i := 0) dX5_keep_92 rfl 0 rfl ?_
            refine g_iconst hX (pc := 93) (v := 0) dX5_keep_93 (by decide) ?_
            obtain ⟨I39, e_I39, h⟩ := bnd h
            refine pf5_29 hX (pc := 94) ho0 fl_X5_222 dX5_keep_94 e_I39 ?_
            refine g_goto hX (pc := 97) (tgt := 107) dX5_keep_97 (by decide) ?_
            exact Kj37 I39 (Option.some.inj h)
        obtain ⟨kl26, hkl26⟩ := lp_ex hpl26
        clear hpl26 h
        have Ll26 : ∀ k : Nat, ∀ (s24 : Int32) (I25 : MI), lpN k (b_X5_keep_32q o0 x1 x2) ((s24, I25)) = some p35 → GW E X (QX E X 0 0 (some (.int rr)) z J Iz) 4 32 [(0, .ref o0), (1, .int x1), (2, .int x2), (3, .int s24)] [] z J I25 0 0 := by
          intro k
          induction k with
          | zero => intro s24 I25 h; cases h
          | succ k ihl26 =>
            intro s24 I25 h
            obtain ⟨wl26, h, hwl26⟩ := lpN_s h
            unfold b_X5_keep_32q at h
            try dsimp only at h
            refine g_iload_n hX (pc := 32) (i := 3) dX5_keep_32 rfl 3 rfl ?_
            refine g_sipush hX (pc := 33) (v := 2117) dX5_keep_33 (by decide) ?_
            refine g_icmp_ge hX (pc := 36) dX5_keep_36 (tgt := 88) (by decide) (fun c27 => ?_) (fun c27 => ?_)
            · replace h := ifP c27 h
              refine g_iload_n hX (pc := 39) (i := 2) dX5_keep_39 rfl 2 rfl ?_
              obtain ⟨p34, hpj29, h⟩ := bnd h
              have Kj29 : ∀ qj29 : MI, qj29 = p34 → GW E X (QX E X 0 0 (some (.int rr)) z J Iz) 4 82 [(0, .ref o0), (1, .int x1), (2, .int x2), (3, .int s24)] [] z J qj29 0 0 := by
                intro qj29 hqj29
                subst hqj29
                refine g_iinc hX (pc := 82) (i := 3) (v := s24 + 1) (ls' := [(0, .ref o0), (1, .int x1), (2, .int x2), (3, .int (s24 + 1))]) 3 [1, 2, 3, 0] dX5_keep_82 rfl (by rfl) (by decide) rfl ?_
                refine g_goto hX (pc := 85) (tgt := 32) dX5_keep_85 (by decide) ?_
                obtain rfl := Option.some.inj h
                exact ihl26 (s24 + 1) qj29 hwl26
              replace h := hpj29
              clear hpj29
              refine g_if_eq hX (pc := 40) dX5_keep_40 (tgt := 64) (by decide) (fun c28 => ?_) (fun c28 => ?_)
              · replace h := ifP c28 h
                refine g_aload_n hX (pc := 64) (i := 0) dX5_keep_64 rfl 0 rfl ?_
                refine gf5_30 hX (pc := 65) ho0 fl_X5_54 dX5_keep_65 ?_
                refine g_sipush hX (pc := 68) (v := 2117) dX5_keep_68 (by decide) ?_
                refine g_iload_n hX (pc := 71) (i := 1) dX5_keep_71 rfl 1 rfl ?_
                refine g_imul hX (pc := 72) dX5_keep_72 ?_
                refine g_iload_n hX (pc := 73) (i := 3) dX5_keep_73 rfl 3 rfl ?_
                refine g_iadd hX (pc := 74) dX5_keep_74 ?_
                refine g_aload_n hX (pc := 75) (i := 0) dX5_keep_75 rfl 0 rfl ?_
                refine gf5_27 hX (pc := 76) ho0 fl_X5_48 dX5_keep_76 ?_
                refine g_iload_n hX (pc := 79) (i := 3) dX5_keep_79 rfl 3 rfl ?_
                obtain ⟨v30, e_v30, h⟩ := bnd h
                refine g_ialoadE hX (pc := 80) (s5_27 ho0).1 (s5_27 ho0).2.1 (s5_27 ho0).2.2.1 e_v30 dX5_keep_80 ?_
                obtain ⟨I31, e_I31, h⟩ := bnd h
                refine g_iastoreE hX (pc := 81) (s5_30 ho0).1 (s5_30 ho0).2.1 (s5_30 ho0).2.2.1 e_I31 dX5_keep_81 ?_
                exact Kj29 I31 (Option.some.inj h)
              · replace h := ifN c28 h
                refine g_aload_n hX (pc := 43) (i := 0) dX5_keep_43 rfl 0 rfl ?_
                refine gf5_27 hX (pc := 44) ho0 fl_X5_48 dX5_keep_44 ?_
                refine g_iload_n hX (pc := 47) (i := 3) dX5_keep_47 rfl 3 rfl ?_
                refine g_aload_n hX (pc := 48) (i := 0) dX5_keep_48 rfl 0 rfl ?_
                refine gf5_30 hX (pc := 49) ho0 fl_X5_54 dX5_keep_49 ?_
                refine g_sipush hX (pc := 52) (v := 2117) dX5_keep_52 (by decide) ?_
                refine g_iload_n hX (pc := 55) (i := 1) dX5_keep_55 rfl 1 rfl ?_
                refine g_imul hX (pc := 56) dX5_keep_56 ?_
                refine g_iload_n hX (pc := 57) (i := 3) dX5_keep_57 rfl 3 rfl ?_
                refine g_iadd hX (pc := 58) dX5_keep_58 ?_
                obtain ⟨v32, e_v32, h⟩ := bnd h
                refine g_ialoadE hX (pc := 59) (s5_30 ho0).1 (s5_30 ho0).2.1 (s5_30 ho0).2.2.1 e_v32 dX5_keep_59 ?_
                obtain ⟨I33, e_I33, h⟩ := bnd h
                refine g_iastoreE hX (pc := 60) (s5_27 ho0).1 (s5_27 ho0).2.1 (s5_27 ho0).2.2.1 e_I33 dX5_keep_60 ?_
                refine g_goto hX (pc := 61) (tgt := 82) dX5_keep_61 (by decide) ?_
                exact Kj29 I33 (Option.some.inj h)
            · replace h := ifN c27 h
              obtain rfl := Option.some.inj h
              exact Kl26 ((s24, I25)) hwl26
        exact Ll26 kl26 0 I1 hkl26
noncomputable def b_X5_freeHoles_4 (o0 : Nat) (I : MI) (s : Int32 × Int32) : Option ((Int32 × Int32) ⊕ (Int32 × Int32)) :=
  (rd 2 (I (o0 + 4)) 0).bind fun v4 =>
  if s.2 < v4 then
    (rd 2117 (I (o0 + 13)) (362 + s.2)).bind fun v6 =>
    (if v6 < 0 then
      some 1
    else
      some 0).bind fun (p9 : Int32) =>
    some (.inl ((s.1 + p9, s.2 + 1)))
  else
    some (.inr ((s.1, s.2)))
noncomputable def f_X5_freeHoles (o0 : Nat) (J : MJ) (I : MI) : Option (Int32) :=
  (lp (b_X5_freeHoles_4 o0 I) ((0, 0))).bind fun p10 =>
  some p10.1
theorem nm_X5_freeHoles : yX5_freeHoles.cls ≠ "java/lang/invoke/MethodHandle" ∧ yX5_freeHoles.cls ≠ "java/lang/invoke/VarHandle" ∧ (parseMethodDescriptor yX5_freeHoles.desc).map (fun d => d.parameters.length) = some 0 := by decide +kernel
set_option maxRecDepth 100000 in
set_option maxHeartbeats 4000000 in
theorem ct_X5_freeHoles {E : Ev} {d : Nat} {z : Sh} {J : MJ} {I : MI} {o0 : Nat} {rr : Int32} (ho0 : oX5 z o0) (h : f_X5_freeHoles o0 J I = some rr) : Ct E (d + 0) yX5_freeHoles cX5_freeHoles 3 (some .int) 0 0 [.ref o0] z J I (some (.int rr)) z J I := by
  unfold f_X5_freeHoles at h
  refine Ct.of (own := RX5) (ls := [(0, .ref o0)]) (by decide) rfl (Nat.le_of_ble_eq_true rfl) rfl ?_
  intro X hr0 hnm hX
  refine g_iconst hX (pc := 0) (v := 0) dX5_freeHoles_0 (by decide) ?_
  refine g_istore_n hX (pc := 1) (i := 1) (ls' := [(0, .ref o0), (1, .int 0)]) [1, 0] dX5_freeHoles_1 rfl (by decide) rfl ?_
  refine g_iconst hX (pc := 2) (v := 0) dX5_freeHoles_2 (by decide) ?_
  refine g_istore_n hX (pc := 3) (i := 2) (ls' := [(0, .ref o0), (1, .int 0), (2, .int 0)]) [1, 2, 0] dX5_freeHoles_3 rfl (by decide) rfl ?_
  obtain ⟨p10, hpl3, h⟩ := bnd h
  have Kl3 : ∀ ql3 : Int32 × Int32, ql3 = p10 → GW E X (QX E X 0 0 (some (.int rr)) z J I) 3 41 [(0, .ref o0), (1, .int ql3.1), (2, .int ql3.2)] [] z J I 0 0 := by
    intro ql3 hql3
    subst hql3
    refine g_iload_n hX (pc := 41) (i := 1) dX5_freeHoles_41 rfl 1 rfl ?_
    obtain rfl := Option.some.inj h
    exact g_ireturn hX (Nat.le_refl _) (Nat.le_refl _) dX5_freeHoles_42
  obtain ⟨kl3, hkl3⟩ := lp_ex hpl3
  clear hpl3 h
  have Ll3 : ∀ k : Nat, ∀ (s1 : Int32) (s2 : Int32), lpN k (b_X5_freeHoles_4 o0 I) ((s1, s2)) = some p10 → GW E X (QX E X 0 0 (some (.int rr)) z J I) 3 4 [(0, .ref o0), (1, .int s1), (2, .int s2)] [] z J I 0 0 := by
    intro k
    induction k with
    | zero => intro s1 s2 h; cases h
    | succ k ihl3 =>
      intro s1 s2 h
      obtain ⟨wl3, h, hwl3⟩ := lpN_s h
      unfold b_X5_freeHoles_4 at h
      try dsimp only at h
      refine g_iload_n hX (pc := 4) (i := 2) dX5_freeHoles_4 rfl 2 rfl ?_
      refine g_aload_n hX (pc := 5) (i := 0) dX5_freeHoles_5 rfl 0 rfl ?_
      refine gf5_15 hX (pc := 6) ho0 fl_X5_20 dX5_freeHoles_6 ?_
      refine g_iconst hX (pc := 9) (v := 0) dX5_freeHoles_9 (by decide) ?_
      obtain ⟨v4, e_v4, h⟩ := bnd h
      refine g_ialoadE hX (pc := 10) (s5_15 ho0).1 (s5_15 ho0).2.1 (s5_15 ho0).2.2.1 e_v4 dX5_freeHoles_10 ?_
      refine g_icmp_ge hX (pc := 11) dX5_freeHoles_11 (tgt := 41) (by decide) (fun c5 => ?_) (fun c5 => ?_)
      · replace h := ifP c5 h
        refine g_iload_n hX (pc := 14) (i := 1) dX5_freeHoles_14 rfl 1 rfl ?_
        refine g_aload_n hX (pc := 15) (i := 0) dX5_freeHoles_15 rfl 0 rfl ?_
        refine gf5_27 hX (pc := 16) ho0 fl_X5_48 dX5_freeHoles_16 ?_
        refine g_sipush hX (pc := 19) (v := 362) dX5_freeHoles_19 (by decide) ?_
        refine g_iload_n hX (pc := 22) (i := 2) dX5_freeHoles_22 rfl 2 rfl ?_
        refine g_iadd hX (pc := 23) dX5_freeHoles_23 ?_
        obtain ⟨v6, e_v6, h⟩ := bnd h
        refine g_ialoadE hX (pc := 24) (s5_27 ho0).1 (s5_27 ho0).2.1 (s5_27 ho0).2.2.1 e_v6 dX5_freeHoles_24 ?_
        obtain ⟨p9, hpj8, h⟩ := bnd h
        have Kj8 : ∀ qj8 : Int32, qj8 = p9 → GW E X (QX E X 0 0 (some (.int rr)) z J I) 3 33 [(0, .ref o0), (1, .int s1), (2, .int s2)] [.int qj8, .int s1] z J I 0 0 := by
          intro qj8 hqj8
          subst hqj8
          refine g_iadd hX (pc := 33) dX5_freeHoles_33 ?_
          refine g_istore_n hX (pc := 34) (i := 1) (ls' := [(0, .ref o0), (1, .int (s1 + qj8)), (2, .int s2)]) [1, 0, 2] dX5_freeHoles_34 rfl (by decide) rfl ?_
          refine g_iinc hX (pc := 35) (i := 2) (v := s2 + 1) (ls' := [(0, .ref o0), (1, .int (s1 + qj8)), (2, .int (s2 + 1))]) 2 [1, 2, 0] dX5_freeHoles_35 rfl (by rfl) (by decide) rfl ?_
          refine g_goto hX (pc := 38) (tgt := 4) dX5_freeHoles_38 (by decide) ?_
          obtain rfl := Option.some.inj h
          exact ihl3 (s1 + qj8) (s2 + 1) hwl3
        replace h := hpj8
        clear hpj8
        refine g_if_ge hX (pc := 25) dX5_freeHoles_25 (tgt := 32) (by decide) (fun c7 => ?_) (fun c7 => ?_)
        · replace h := ifP c7 h
          refine g_iconst hX (pc := 28) (v := 1) dX5_freeHoles_28 (by decide) ?_
          refine g_goto hX (pc := 29) (tgt := 33) dX5_freeHoles_29 (by decide) ?_
          exact Kj8 1 (Option.some.inj h)
        · replace h := ifN c7 h
          refine g_iconst hX (pc := 32) (v := 0) dX5_freeHoles_32 (by decide) ?_
          exact Kj8 0 (Option.some.inj h)
      · replace h := ifN c5 h
        obtain rfl := Option.some.inj h
        exact Kl3 ((s1, s2)) hwl3
  exact Ll3 kl3 0 0 hkl3
noncomputable def b_X5_allLate_4 (o0 : Nat) (J : MJ) (I : MI) (s : Int32 × Int32) : Option ((Int32 × Int32) ⊕ (Int32 × Int32)) :=
  (rd 2 (I (o0 + 3)) 0).bind fun v4 =>
  if s.2 < v4 then
    (f_X5_sumOf o0 170 s.2 J I).bind fun r6 =>
    some (.inl ((s.1 + r6, s.2 + 1)))
  else
    some (.inr ((s.1, s.2)))
noncomputable def f_X5_allLate (o0 : Nat) (J : MJ) (I : MI) : Option (Int32) :=
  (lp (b_X5_allLate_4 o0 J I) ((0, 0))).bind fun p7 =>
  some p7.1
theorem nm_X5_allLate : yX5_allLate.cls ≠ "java/lang/invoke/MethodHandle" ∧ yX5_allLate.cls ≠ "java/lang/invoke/VarHandle" ∧ (parseMethodDescriptor yX5_allLate.desc).map (fun d => d.parameters.length) = some 0 := by decide +kernel
set_option maxRecDepth 100000 in
set_option maxHeartbeats 4000000 in
theorem ct_X5_allLate {E : Ev} {d : Nat} {z : Sh} {J : MJ} {I : MI} {o0 : Nat} {rr : Int32} (ho0 : oX5 z o0) (h : f_X5_allLate o0 J I = some rr) : Ct E (d + 1) yX5_allLate cX5_allLate 3 (some .int) 0 0 [.ref o0] z J I (some (.int rr)) z J I := by
  unfold f_X5_allLate at h
  refine Ct.of (own := RX5) (ls := [(0, .ref o0)]) (by decide) rfl (Nat.le_of_ble_eq_true rfl) rfl ?_
  intro X hr0 hnm hX
  refine g_iconst hX (pc := 0) (v := 0) dX5_allLate_0 (by decide) ?_
  refine g_istore_n hX (pc := 1) (i := 1) (ls' := [(0, .ref o0), (1, .int 0)]) [1, 0] dX5_allLate_1 rfl (by decide) rfl ?_
  refine g_iconst hX (pc := 2) (v := 0) dX5_allLate_2 (by decide) ?_
  refine g_istore_n hX (pc := 3) (i := 2) (ls' := [(0, .ref o0), (1, .int 0), (2, .int 0)]) [1, 2, 0] dX5_allLate_3 rfl (by decide) rfl ?_
  obtain ⟨p7, hpl3, h⟩ := bnd h
  have Kl3 : ∀ ql3 : Int32 × Int32, ql3 = p7 → GW E X (QX E X 0 0 (some (.int rr)) z J I) 3 31 [(0, .ref o0), (1, .int ql3.1), (2, .int ql3.2)] [] z J I 0 0 := by
    intro ql3 hql3
    subst hql3
    refine g_iload_n hX (pc := 31) (i := 1) dX5_allLate_31 rfl 1 rfl ?_
    obtain rfl := Option.some.inj h
    exact g_ireturn hX (Nat.le_refl _) (Nat.le_refl _) dX5_allLate_32
  obtain ⟨kl3, hkl3⟩ := lp_ex hpl3
  clear hpl3 h
  have Ll3 : ∀ k : Nat, ∀ (s1 : Int32) (s2 : Int32), lpN k (b_X5_allLate_4 o0 J I) ((s1, s2)) = some p7 → GW E X (QX E X 0 0 (some (.int rr)) z J I) 3 4 [(0, .ref o0), (1, .int s1), (2, .int s2)] [] z J I 0 0 := by
    intro k
    induction k with
    | zero => intro s1 s2 h; cases h
    | succ k ihl3 =>
      intro s1 s2 h
      obtain ⟨wl3, h, hwl3⟩ := lpN_s h
      unfold b_X5_allLate_4 at h
      try dsimp only at h
      refine g_iload_n hX (pc := 4) (i := 2) dX5_allLate_4 rfl 2 rfl ?_
      refine g_aload_n hX (pc := 5) (i := 0) dX5_allLate_5 rfl 0 rfl ?_
      refine gf5_14 hX (pc := 6) ho0 fl_X5_17 dX5_allLate_6 ?_
      refine g_iconst hX (pc := 9) (v := 0) dX5_allLate_9 (by decide) ?_
      obtain ⟨v4, e_v4, h⟩ := bnd h
      refine g_ialoadE hX (pc := 10) (s5_14 ho0).1 (s5_14 ho0).2.1 (s5_14 ho0).2.2.1 e_v4 dX5_allLate_10 ?_
      refine g_icmp_ge hX (pc := 11) dX5_allLate_11 (tgt := 31) (by decide) (fun c5 => ?_) (fun c5 => ?_)
      · replace h := ifP c5 h
        refine g_iload_n hX (pc := 14) (i := 1) dX5_allLate_14 rfl 1 rfl ?_
        refine g_aload_n hX (pc := 15) (i := 0) dX5_allLate_15 rfl 0 rfl ?_
        refine g_sipush hX (pc := 16) (v := 170) dX5_allLate_16 (by decide) ?_
        refine g_iload_n hX (pc := 19) (i := 2) dX5_allLate_19 rfl 2 rfl ?_
        obtain ⟨r6, e_r6, h⟩ := bnd h
        refine g_callVi hX (pc := 20) (d := d + 0) hr0 [.int 170, .int s2] (c := 5) (ct_X5_sumOf (d := d + 0) ho0 e_r6) ho0.1.1 ho0.1.2 (by decide) rfl co_X5_sumOf ml_X5_240 im_X5_sumOf sl_X5_sumOf ini_X5 nm_X5_sumOf (by decide) ⟨Nat.le_refl _, Nat.le_refl _⟩ (Nat.le_refl _) (Nat.le_of_ble_eq_true rfl) rfl dX5_allLate_20 ?_
        refine g_iadd hX (pc := 23) dX5_allLate_23 ?_
        refine g_istore_n hX (pc := 24) (i := 1) (ls' := [(0, .ref o0), (1, .int (s1 + r6)), (2, .int s2)]) [1, 0, 2] dX5_allLate_24 rfl (by decide) rfl ?_
        refine g_iinc hX (pc := 25) (i := 2) (v := s2 + 1) (ls' := [(0, .ref o0), (1, .int (s1 + r6)), (2, .int (s2 + 1))]) 2 [1, 2, 0] dX5_allLate_25 rfl (by rfl) (by decide) rfl ?_
        refine g_goto hX (pc := 28) (tgt := 4) dX5_allLate_28 (by decide) ?_
        obtain rfl := Option.some.inj h
        exact ihl3 (s1 + r6) (s2 + 1) hwl3
      · replace h := ifN c5 h
        obtain rfl := Option.some.inj h
        exact Kl3 ((s1, s2)) hwl3
  exact Ll3 kl3 0 0 hkl3
noncomputable def f_X5_count (o0 : Nat) (x1 : Int32) (J : MJ) (I : MI) : Option (Int32 × MI) :=
  (wf I o0 0 0).bind fun I1 =>
  if x1 = 0 then
    (rd 2 (I1 (o0 + 2)) 0).bind fun v3 =>
    some ((v3, I1))
  else
    if x1 = 1 then
      (rd 2 (I1 (o0 + 3)) 0).bind fun v5 =>
      some ((v5, I1))
    else
      if x1 = 2 then
        (rd 2 (I1 (o0 + 4)) 0).bind fun v7 =>
        some ((v7, I1))
      else
        if x1 = 3 then
          (f_X5_freeHoles o0 J I1).bind fun r9 =>
          some ((r9, I1))
        else
          if x1 = 4 then
            (f_X5_waiting o0 J I1).bind fun r11 =>
            (f_X5_count1 r11).bind fun r12 =>
            some ((r12, I1))
          else
            if x1 = 5 then
              (f_X5_allLate o0 J I1).bind fun r14 =>
              some ((r14, I1))
            else
              if x1 = 6 then
                some ((I1 o0 29, I1))
              else
                if x1 = 7 then
                  some ((I1 o0 2, I1))
                else
                  if x1 = 8 then
                    (rd 2 (I1 (o0 + 5)) 0).bind fun v18 =>
                    some ((v18, I1))
                  else
                    if x1 = 9 then
                      (rd 2 (I1 (o0 + 6)) 0).bind fun v20 =>
                      some ((v20, I1))
                    else
                      some (((-1), I1))
theorem nm_X5_count : yX5_count.cls ≠ "java/lang/invoke/MethodHandle" ∧ yX5_count.cls ≠ "java/lang/invoke/VarHandle" ∧ (parseMethodDescriptor yX5_count.desc).map (fun d => d.parameters.length) = some 1 := by decide +kernel
set_option maxRecDepth 100000 in
set_option maxHeartbeats 4000000 in
theorem ct_X5_count {E : Ev} {d : Nat} {z : Sh} {J : MJ} {I : MI} {o0 : Nat} {x1 : Int32} {rr : Int32} {Iz : MI} (ho0 : oX5 z o0) (h : f_X5_count o0 x1 J I = some ((rr, Iz))) : Ct E (d + 2) yX5_count cX5_count 2 (some .int) 0 0 [.ref o0, .int x1] z J I (some (.int rr)) z J Iz := by
  unfold f_X5_count at h
  refine Ct.of (own := RX5) (ls := [(0, .ref o0), (1, .int x1)]) (by decide) rfl (Nat.le_of_ble_eq_true rfl) rfl ?_
  intro X hr0 hnm hX
  refine g_aload_n hX (pc := 0) (i := 0) dX5_count_0 rfl 0 rfl ?_
  refine g_iconst hX (pc := 1) (v := 0) dX5_count_1 (by decide) ?_
  obtain ⟨I1, e_I1, h⟩ := bnd h
  refine pf5_0 hX (pc := 2) ho0 fl_X5_86 dX5_count_2 e_I1 ?_
  refine g_iload_n hX (pc := 5) (i := 1) dX5_count_5 rfl 1 rfl ?_
  by_cases c2 : x1 = 0
  · replace h := ifP c2 h
    refine g_tableIn hX (pc := 6) (tgt := 60) (off := 54) dX5_count_6 (by rw [c2]; decide) (by rw [c2]; decide) (by rw [c2]; rfl) (by decide) ?_
    refine g_aload_n hX (pc := 60) (i := 0) dX5_count_60 rfl 0 rfl ?_
    refine gf5_13 hX (pc := 61) ho0 fl_X5_13 dX5_count_61 ?_
    refine g_iconst hX (pc := 64) (v := 0) dX5_count_64 (by decide) ?_
    obtain ⟨v3, e_v3, h⟩ := bnd h
    refine g_ialoadE hX (pc := 65) (s5_13 ho0).1 (s5_13 ho0).2.1 (s5_13 ho0).2.2.1 e_v3 dX5_count_65 ?_
    replace h := Option.some.inj h
    obtain ⟨rfl, rfl⟩ := Prod.mk.inj h
    exact g_ireturn hX (Nat.le_refl _) (Nat.le_refl _) dX5_count_66
  · replace h := ifN c2 h
    by_cases c4 : x1 = 1
    · replace h := ifP c4 h
      refine g_tableIn hX (pc := 6) (tgt := 67) (off := 61) dX5_count_6 (by rw [c4]; decide) (by rw [c4]; decide) (by rw [c4]; rfl) (by decide) ?_
      refine g_aload_n hX (pc := 67) (i := 0) dX5_count_67 rfl 0 rfl ?_
      refine gf5_14 hX (pc := 68) ho0 fl_X5_17 dX5_count_68 ?_
      refine g_iconst hX (pc := 71) (v := 0) dX5_count_71 (by decide) ?_
      obtain ⟨v5, e_v5, h⟩ := bnd h
      refine g_ialoadE hX (pc := 72) (s5_14 ho0).1 (s5_14 ho0).2.1 (s5_14 ho0).2.2.1 e_v5 dX5_count_72 ?_
      replace h := Option.some.inj h
      obtain ⟨rfl, rfl⟩ := Prod.mk.inj h
      exact g_ireturn hX (Nat.le_refl _) (Nat.le_refl _) dX5_count_73
    · replace h := ifN c4 h
      by_cases c6 : x1 = 2
      · replace h := ifP c6 h
        refine g_tableIn hX (pc := 6) (tgt := 74) (off := 68) dX5_count_6 (by rw [c6]; decide) (by rw [c6]; decide) (by rw [c6]; rfl) (by decide) ?_
        refine g_aload_n hX (pc := 74) (i := 0) dX5_count_74 rfl 0 rfl ?_
        refine gf5_15 hX (pc := 75) ho0 fl_X5_20 dX5_count_75 ?_
        refine g_iconst hX (pc := 78) (v := 0) dX5_count_78 (by decide) ?_
        obtain ⟨v7, e_v7, h⟩ := bnd h
        refine g_ialoadE hX (pc := 79) (s5_15 ho0).1 (s5_15 ho0).2.1 (s5_15 ho0).2.2.1 e_v7 dX5_count_79 ?_
        replace h := Option.some.inj h
        obtain ⟨rfl, rfl⟩ := Prod.mk.inj h
        exact g_ireturn hX (Nat.le_refl _) (Nat.le_refl _) dX5_count_80
      · replace h := ifN c6 h
        by_cases c8 : x1 = 3
        · replace h := ifP c8 h
          refine g_tableIn hX (pc := 6) (tgt := 81) (off := 75) dX5_count_6 (by rw [c8]; decide) (by rw [c8]; decide) (by rw [c8]; rfl) (by decide) ?_
          refine g_aload_n hX (pc := 81) (i := 0) dX5_count_81 rfl 0 rfl ?_
          obtain ⟨r9, e_r9, h⟩ := bnd h
          refine g_callVi hX (pc := 82) (d := d + 1) hr0 [] (c := 5) (ct_X5_freeHoles (d := d + 1) ho0 e_r9) ho0.1.1 ho0.1.2 (by decide) rfl co_X5_freeHoles ml_X5_348 im_X5_freeHoles sl_X5_freeHoles ini_X5 nm_X5_freeHoles (by decide) ⟨Nat.le_refl _, Nat.le_refl _⟩ (Nat.le_refl _) (Nat.le_of_ble_eq_true rfl) rfl dX5_count_82 ?_
          replace h := Option.some.inj h
          obtain ⟨rfl, rfl⟩ := Prod.mk.inj h
          exact g_ireturn hX (Nat.le_refl _) (Nat.le_refl _) dX5_count_85
        · replace h := ifN c8 h
          by_cases c10 : x1 = 4
          · replace h := ifP c10 h
            refine g_tableIn hX (pc := 6) (tgt := 86) (off := 80) dX5_count_6 (by rw [c10]; decide) (by rw [c10]; decide) (by rw [c10]; rfl) (by decide) ?_
            refine g_aload_n hX (pc := 86) (i := 0) dX5_count_86 rfl 0 rfl ?_
            obtain ⟨r11, e_r11, h⟩ := bnd h
            refine g_callVi hX (pc := 87) (d := d + 1) hr0 [] (c := 5) (ct_X5_waiting (d := d + 1) ho0 e_r11) ho0.1.1 ho0.1.2 (by decide) rfl co_X5_waiting ml_X5_263 im_X5_waiting sl_X5_waiting ini_X5 nm_X5_waiting (by decide) ⟨Nat.le_refl _, Nat.le_refl _⟩ (Nat.le_refl _) (Nat.le_of_ble_eq_true rfl) rfl dX5_count_87 ?_
            obtain ⟨r12, e_r12, h⟩ := bnd h
            refine g_callSi hX (pc := 90) (d := d + 1) hr0 [.int r11] (ct_X5_count1 (d := d + 1)  e_r12) co_X5_count1 ml_X5_253 sta_X5_count1 ini_X5 nm_X5_count1 (by decide) ⟨Nat.le_refl _, Nat.le_refl _⟩ (Nat.le_refl _) (Nat.le_of_ble_eq_true rfl) rfl dX5_count_90 ?_
            replace h := Option.some.inj h
            obtain ⟨rfl, rfl⟩ := Prod.mk.inj h
            exact g_ireturn hX (Nat.le_refl _) (Nat.le_refl _) dX5_count_93
          · replace h := ifN c10 h
            by_cases c13 : x1 = 5
            · replace h := ifP c13 h
              refine g_tableIn hX (pc := 6) (tgt := 94) (off := 88) dX5_count_6 (by rw [c13]; decide) (by rw [c13]; decide) (by rw [c13]; rfl) (by decide) ?_
              refine g_aload_n hX (pc := 94) (i := 0) dX5_count_94 rfl 0 rfl ?_
              obtain ⟨r14, e_r14, h⟩ := bnd h
              refine g_callVi hX (pc := 95) (d := d + 1) hr0 [] (c := 5) (ct_X5_allLate (d := d + 0) ho0 e_r14) ho0.1.1 ho0.1.2 (by decide) rfl co_X5_allLate ml_X5_351 im_X5_allLate sl_X5_allLate ini_X5 nm_X5_allLate (by decide) ⟨Nat.le_refl _, Nat.le_refl _⟩ (Nat.le_refl _) (Nat.le_of_ble_eq_true rfl) rfl dX5_count_95 ?_
              replace h := Option.some.inj h
              obtain ⟨rfl, rfl⟩ := Prod.mk.inj h
              exact g_ireturn hX (Nat.le_refl _) (Nat.le_refl _) dX5_count_98
            · replace h := ifN c13 h
              by_cases c15 : x1 = 6
              · replace h := ifP c15 h
                refine g_tableIn hX (pc := 6) (tgt := 99) (off := 93) dX5_count_6 (by rw [c15]; decide) (by rw [c15]; decide) (by rw [c15]; rfl) (by decide) ?_
                refine g_aload_n hX (pc := 99) (i := 0) dX5_count_99 rfl 0 rfl ?_
                refine gf5_29 hX (pc := 100) ho0 fl_X5_222 dX5_count_100 ?_
                replace h := Option.some.inj h
                obtain ⟨rfl, rfl⟩ := Prod.mk.inj h
                exact g_ireturn hX (Nat.le_refl _) (Nat.le_refl _) dX5_count_103
              · replace h := ifN c15 h
                by_cases c16 : x1 = 7
                · replace h := ifP c16 h
                  refine g_tableIn hX (pc := 6) (tgt := 104) (off := 98) dX5_count_6 (by rw [c16]; decide) (by rw [c16]; decide) (by rw [c16]; rfl) (by decide) ?_
                  refine g_aload_n hX (pc := 104) (i := 0) dX5_count_104 rfl 0 rfl ?_
                  refine gf5_2 hX (pc := 105) ho0 fl_X5_90 dX5_count_105 ?_
                  replace h := Option.some.inj h
                  obtain ⟨rfl, rfl⟩ := Prod.mk.inj h
                  exact g_ireturn hX (Nat.le_refl _) (Nat.le_refl _) dX5_count_108
                · replace h := ifN c16 h
                  by_cases c17 : x1 = 8
                  · replace h := ifP c17 h
                    refine g_tableIn hX (pc := 6) (tgt := 109) (off := 103) dX5_count_6 (by rw [c17]; decide) (by rw [c17]; decide) (by rw [c17]; rfl) (by decide) ?_
                    refine g_aload_n hX (pc := 109) (i := 0) dX5_count_109 rfl 0 rfl ?_
                    refine gf5_16 hX (pc := 110) ho0 fl_X5_23 dX5_count_110 ?_
                    refine g_iconst hX (pc := 113) (v := 0) dX5_count_113 (by decide) ?_
                    obtain ⟨v18, e_v18, h⟩ := bnd h
                    refine g_ialoadE hX (pc := 114) (s5_16 ho0).1 (s5_16 ho0).2.1 (s5_16 ho0).2.2.1 e_v18 dX5_count_114 ?_
                    replace h := Option.some.inj h
                    obtain ⟨rfl, rfl⟩ := Prod.mk.inj h
                    exact g_ireturn hX (Nat.le_refl _) (Nat.le_refl _) dX5_count_115
                  · replace h := ifN c17 h
                    by_cases c19 : x1 = 9
                    · replace h := ifP c19 h
                      refine g_tableIn hX (pc := 6) (tgt := 116) (off := 110) dX5_count_6 (by rw [c19]; decide) (by rw [c19]; decide) (by rw [c19]; rfl) (by decide) ?_
                      refine g_aload_n hX (pc := 116) (i := 0) dX5_count_116 rfl 0 rfl ?_
                      refine gf5_17 hX (pc := 117) ho0 fl_X5_26 dX5_count_117 ?_
                      refine g_iconst hX (pc := 120) (v := 0) dX5_count_120 (by decide) ?_
                      obtain ⟨v20, e_v20, h⟩ := bnd h
                      refine g_ialoadE hX (pc := 121) (s5_17 ho0).1 (s5_17 ho0).2.1 (s5_17 ho0).2.2.1 e_v20 dX5_count_121 ?_
                      replace h := Option.some.inj h
                      obtain ⟨rfl, rfl⟩ := Prod.mk.inj h
                      exact g_ireturn hX (Nat.le_refl _) (Nat.le_refl _) dX5_count_122
                    · replace h := ifN c19 h
                      refine g_tableOut hX (pc := 6) (tgt := 123) dX5_count_6 (by have q0 := lv_neT c2 (show (0 : Int32).toInt = 0 by decide); have q1 := lv_neT c4 (show (1 : Int32).toInt = 1 by decide); have q2 := lv_neT c6 (show (2 : Int32).toInt = 2 by decide); have q3 := lv_neT c8 (show (3 : Int32).toInt = 3 by decide); have q4 := lv_neT c10 (show (4 : Int32).toInt = 4 by decide); have q5 := lv_neT c13 (show (5 : Int32).toInt = 5 by decide); have q6 := lv_neT c15 (show (6 : Int32).toInt = 6 by decide); have q7 := lv_neT c16 (show (7 : Int32).toInt = 7 by decide); have q8 := lv_neT c17 (show (8 : Int32).toInt = 8 by decide); have q9 := lv_neT c19 (show (9 : Int32).toInt = 9 by decide); omega) (by decide) ?_
                      refine g_iconst hX (pc := 123) (v := (-1)) dX5_count_123 (by decide) ?_
                      replace h := Option.some.inj h
                      obtain ⟨rfl, rfl⟩ := Prod.mk.inj h
                      exact g_ireturn hX (Nat.le_refl _) (Nat.le_refl _) dX5_count_124
noncomputable def f_X5_init (o0 : Nat) (z : Sh) (J : MJ) (I : MI) : Option (Sh × MJ × MI) :=
  (nm (zNa z 6 600)).bind fun z2 =>
  (nm (clr 0 I (zs z))).bind fun I1 =>
  (nm (zSt z2 o0 1 (some (zs z)))).bind fun z4 =>
  (nm (zNa z4 7 2)).bind fun z7 =>
  (nm (clr 0 I1 (zs z4))).bind fun I6 =>
  (nm (zSt z7 o0 13 (some (zs z4)))).bind fun z9 =>
  (nm (zNa z9 7 2)).bind fun z12 =>
  (nm (clr 0 I6 (zs z9))).bind fun I11 =>
  (nm (zSt z12 o0 14 (some (zs z9)))).bind fun z14 =>
  (nm (zNa z14 7 2)).bind fun z17 =>
  (nm (clr 0 I11 (zs z14))).bind fun I16 =>
  (nm (zSt z17 o0 15 (some (zs z14)))).bind fun z19 =>
  (nm (zNa z19 7 2)).bind fun z22 =>
  (nm (clr 0 I16 (zs z19))).bind fun I21 =>
  (nm (zSt z22 o0 16 (some (zs z19)))).bind fun z24 =>
  (nm (zNa z24 7 2)).bind fun z27 =>
  (nm (clr 0 I21 (zs z24))).bind fun I26 =>
  (nm (zSt z27 o0 17 (some (zs z24)))).bind fun z29 =>
  (nm (zNa z29 8 20)).bind fun z32 =>
  (nm (clr 0 J (zs z29))).bind fun J31 =>
  (nm (zSt z32 o0 18 (some (zs z29)))).bind fun z34 =>
  (nm (zNa z34 7 20)).bind fun z37 =>
  (nm (clr 0 I26 (zs z34))).bind fun I36 =>
  (nm (zSt z37 o0 19 (some (zs z34)))).bind fun z39 =>
  (nm (zNa z39 7 20)).bind fun z42 =>
  (nm (clr 0 I36 (zs z39))).bind fun I41 =>
  (nm (zSt z42 o0 20 (some (zs z39)))).bind fun z44 =>
  (nm (zNa z44 8 32)).bind fun z47 =>
  (nm (clr 0 J31 (zs z44))).bind fun J46 =>
  (nm (zSt z47 o0 21 (some (zs z44)))).bind fun z49 =>
  (nm (zNa z49 7 32)).bind fun z52 =>
  (nm (clr 0 I41 (zs z49))).bind fun I51 =>
  (nm (zSt z52 o0 22 (some (zs z49)))).bind fun z54 =>
  (nm (zNa z54 7 320)).bind fun z57 =>
  (nm (clr 0 I51 (zs z54))).bind fun I56 =>
  (nm (zSt z57 o0 23 (some (zs z54)))).bind fun z59 =>
  (nm (zNa z59 7 2117)).bind fun z62 =>
  (nm (clr 0 I56 (zs z59))).bind fun I61 =>
  (nm (zSt z62 o0 27 (some (zs z59)))).bind fun z64 =>
  (nm (zNa z64 7 25404)).bind fun z67 =>
  (nm (clr 0 I61 (zs z64))).bind fun I66 =>
  (nm (zSt z67 o0 28 (some (zs z64)))).bind fun z69 =>
  (nm (zNa z69 7 4234)).bind fun z72 =>
  (nm (clr 0 I66 (zs z69))).bind fun I71 =>
  (nm (zSt z72 o0 30 (some (zs z69)))).bind fun z74 =>
  (nm (zNa z74 9 2)).bind fun z77 =>
  (nm (clr 0 I71 (zs z74))).bind fun I76 =>
  (nm (zSt z77 o0 31 (some (zs z74)))).bind fun z79 =>
  (nm (zNa z79 7 2117)).bind fun z82 =>
  (nm (clr 0 I76 (zs z79))).bind fun I81 =>
  (nm (zSt z82 o0 32 (some (zs z79)))).bind fun z84 =>
  (nm (zNa z84 7 10)).bind fun z87 =>
  (nm (clr 0 I81 (zs z84))).bind fun I86 =>
  (nm (zSt z87 o0 33 (some (zs z84)))).bind fun z89 =>
  (nm (zNa z89 7 10)).bind fun z92 =>
  (nm (clr 0 I86 (zs z89))).bind fun I91 =>
  (nm (zSt z92 o0 34 (some (zs z89)))).bind fun z94 =>
  (nm (zNa z94 7 16)).bind fun z97 =>
  (nm (clr 0 I91 (zs z94))).bind fun I96 =>
  (nm (zSt z97 o0 36 (some (zs z94)))).bind fun z99 =>
  (nm (zNa z99 7 10)).bind fun z102 =>
  (nm (clr 0 I96 (zs z99))).bind fun I101 =>
  (nm (zSt z102 o0 37 (some (zs z99)))).bind fun z104 =>
  (nm (zNa z104 7 10)).bind fun z107 =>
  (nm (clr 0 I101 (zs z104))).bind fun I106 =>
  (nm (zSt z107 o0 38 (some (zs z104)))).bind fun z109 =>
  (gd (oX5 z109 o0)).bind fun g111 =>
  (f_X5_plain o0 0 J46 I106).bind fun r112 =>
  (f_X5_empties o0 J46 r112).bind fun r113 =>
  some ((z109, J46, r113))
theorem nm_X5_init : yX5_init.cls ≠ "java/lang/invoke/MethodHandle" ∧ yX5_init.cls ≠ "java/lang/invoke/VarHandle" ∧ (parseMethodDescriptor yX5_init.desc).map (fun d => d.parameters.length) = some 0 := by decide +kernel
set_option maxRecDepth 100000 in
set_option maxHeartbeats 4000000 in
theorem ct_X5_init {E : Ev} {d : Nat} {z : Sh} {J : MJ} {I : MI} {o0 : Nat} {zz : Sh} {Jz : MJ} {Iz : MI} (ho0 : raw z o0 5) (h : f_X5_init o0 z J I = some ((zz, Jz, Iz))) : Ct E (d + 1) yX5_init cX5_init 1 none 22 34984 [.ref o0] z J I none zz Jz Iz := by
  unfold f_X5_init at h
  refine Ct.of (own := RX5) (ls := [(0, .ref o0)]) (by decide) rfl (Nat.le_of_ble_eq_true rfl) rfl ?_
  intro X hr0 hnm hX
  refine g_aload_n hX (pc := 0) (i := 0) dX5_init_0 rfl 0 rfl ?_
  refine g_objInit hX (pc := 1) (d := d + 0) hr0 ml_X5_1 im_java_lang_Object__init__3 co_objInit (by exact Nat.le_of_ble_eq_true rfl) dX5_init_1 ?_
  refine g_aload_n hX (pc := 4) (i := 0) dX5_init_4 rfl 0 rfl ?_
  refine g_sipush hX (pc := 5) (v := 600) dX5_init_5 (by decide) ?_
  refine g_newA6 hX (pc := 8) hr0 (N := 600) (by decide) (by decide) (by decide) (by decide) dX5_init_8 ?_
  obtain ⟨z2, e_z2, h⟩ := bnd h
  refine g_nmz e_z2 ?_
  have hu3 := raw.nm e_z2 (ho0.na 6 600)
  obtain ⟨I1, e_I1, h⟩ := bnd h
  refine g_nmM e_I1 ?_
  refine pr5_1 hX (pc := 10) hu3 fl_X5_7 hnm rfl dX5_init_10 ?_
  obtain ⟨z4, e_z4, h⟩ := bnd h
  refine g_nmz e_z4 ?_
  have hu5 := raw.nm e_z4 (hu3.st o0 1 (some (zs z)))
  refine g_aload_n hX (pc := 13) (i := 0) dX5_init_13 rfl 0 rfl ?_
  refine g_iconst hX (pc := 14) (v := 2) dX5_init_14 (by decide) ?_
  refine g_newA7 hX (pc := 15) hr0 (N := 2) (by decide) (by decide) (by decide) (by decide) dX5_init_15 ?_
  obtain ⟨z7, e_z7, h⟩ := bnd h
  refine g_nmz e_z7 ?_
  have hu8 := raw.nm e_z7 (hu5.na 7 2)
  obtain ⟨I6, e_I6, h⟩ := bnd h
  refine g_nmM e_I6 ?_
  refine pr5_13 hX (pc := 17) hu8 fl_X5_13 hnm rfl dX5_init_17 ?_
  obtain ⟨z9, e_z9, h⟩ := bnd h
  refine g_nmz e_z9 ?_
  have hu10 := raw.nm e_z9 (hu8.st o0 13 (some (zs z4)))
  refine g_aload_n hX (pc := 20) (i := 0) dX5_init_20 rfl 0 rfl ?_
  refine g_iconst hX (pc := 21) (v := 2) dX5_init_21 (by decide) ?_
  refine g_newA7 hX (pc := 22) hr0 (N := 2) (by decide) (by decide) (by decide) (by decide) dX5_init_22 ?_
  obtain ⟨z12, e_z12, h⟩ := bnd h
  refine g_nmz e_z12 ?_
  have hu13 := raw.nm e_z12 (hu10.na 7 2)
  obtain ⟨I11, e_I11, h⟩ := bnd h
  refine g_nmM e_I11 ?_
  refine pr5_14 hX (pc := 24) hu13 fl_X5_17 hnm rfl dX5_init_24 ?_
  obtain ⟨z14, e_z14, h⟩ := bnd h
  refine g_nmz e_z14 ?_
  have hu15 := raw.nm e_z14 (hu13.st o0 14 (some (zs z9)))
  refine g_aload_n hX (pc := 27) (i := 0) dX5_init_27 rfl 0 rfl ?_
  refine g_iconst hX (pc := 28) (v := 2) dX5_init_28 (by decide) ?_
  refine g_newA7 hX (pc := 29) hr0 (N := 2) (by decide) (by decide) (by decide) (by decide) dX5_init_29 ?_
  obtain ⟨z17, e_z17, h⟩ := bnd h
  refine g_nmz e_z17 ?_
  have hu18 := raw.nm e_z17 (hu15.na 7 2)
  obtain ⟨I16, e_I16, h⟩ := bnd h
  refine g_nmM e_I16 ?_
  refine pr5_15 hX (pc := 31) hu18 fl_X5_20 hnm rfl dX5_init_31 ?_
  obtain ⟨z19, e_z19, h⟩ := bnd h
  refine g_nmz e_z19 ?_
  have hu20 := raw.nm e_z19 (hu18.st o0 15 (some (zs z14)))
  refine g_aload_n hX (pc := 34) (i := 0) dX5_init_34 rfl 0 rfl ?_
  refine g_iconst hX (pc := 35) (v := 2) dX5_init_35 (by decide) ?_
  refine g_newA7 hX (pc := 36) hr0 (N := 2) (by decide) (by decide) (by decide) (by decide) dX5_init_36 ?_
  obtain ⟨z22, e_z22, h⟩ := bnd h
  refine g_nmz e_z22 ?_
  have hu23 := raw.nm e_z22 (hu20.na 7 2)
  obtain ⟨I21, e_I21, h⟩ := bnd h
  refine g_nmM e_I21 ?_
  refine pr5_16 hX (pc := 38) hu23 fl_X5_23 hnm rfl dX5_init_38 ?_
  obtain ⟨z24, e_z24, h⟩ := bnd h
  refine g_nmz e_z24 ?_
  have hu25 := raw.nm e_z24 (hu23.st o0 16 (some (zs z19)))
  refine g_aload_n hX (pc := 41) (i := 0) dX5_init_41 rfl 0 rfl ?_
  refine g_iconst hX (pc := 42) (v := 2) dX5_init_42 (by decide) ?_
  refine g_newA7 hX (pc := 43) hr0 (N := 2) (by decide) (by decide) (by decide) (by decide) dX5_init_43 ?_
  obtain ⟨z27, e_z27, h⟩ := bnd h
  refine g_nmz e_z27 ?_
  have hu28 := raw.nm e_z27 (hu25.na 7 2)
  obtain ⟨I26, e_I26, h⟩ := bnd h
  refine g_nmM e_I26 ?_
  refine pr5_17 hX (pc := 45) hu28 fl_X5_26 hnm rfl dX5_init_45 ?_
  obtain ⟨z29, e_z29, h⟩ := bnd h
  refine g_nmz e_z29 ?_
  have hu30 := raw.nm e_z29 (hu28.st o0 17 (some (zs z24)))
  refine g_aload_n hX (pc := 48) (i := 0) dX5_init_48 rfl 0 rfl ?_
  refine g_bipush hX (pc := 49) (v := 20) dX5_init_49 (by decide) ?_
  refine g_newA8 hX (pc := 51) hr0 (N := 20) (by decide) (by decide) (by decide) (by decide) dX5_init_51 ?_
  obtain ⟨z32, e_z32, h⟩ := bnd h
  refine g_nmz e_z32 ?_
  have hu33 := raw.nm e_z32 (hu30.na 8 20)
  obtain ⟨J31, e_J31, h⟩ := bnd h
  refine g_nmMJ e_J31 ?_
  refine pr5_18 hX (pc := 53) hu33 fl_X5_29 hnm rfl dX5_init_53 ?_
  obtain ⟨z34, e_z34, h⟩ := bnd h
  refine g_nmz e_z34 ?_
  have hu35 := raw.nm e_z34 (hu33.st o0 18 (some (zs z29)))
  refine g_aload_n hX (pc := 56) (i := 0) dX5_init_56 rfl 0 rfl ?_
  refine g_bipush hX (pc := 57) (v := 20) dX5_init_57 (by decide) ?_
  refine g_newA7 hX (pc := 59) hr0 (N := 20) (by decide) (by decide) (by decide) (by decide) dX5_init_59 ?_
  obtain ⟨z37, e_z37, h⟩ := bnd h
  refine g_nmz e_z37 ?_
  have hu38 := raw.nm e_z37 (hu35.na 7 20)
  obtain ⟨I36, e_I36, h⟩ := bnd h
  refine g_nmM e_I36 ?_
  refine pr5_19 hX (pc := 61) hu38 fl_X5_33 hnm rfl dX5_init_61 ?_
  obtain ⟨z39, e_z39, h⟩ := bnd h
  refine g_nmz e_z39 ?_
  have hu40 := raw.nm e_z39 (hu38.st o0 19 (some (zs z34)))
  refine g_aload_n hX (pc := 64) (i := 0) dX5_init_64 rfl 0 rfl ?_
  refine g_bipush hX (pc := 65) (v := 20) dX5_init_65 (by decide) ?_
  refine g_newA7 hX (pc := 67) hr0 (N := 20) (by decide) (by decide) (by decide) (by decide) dX5_init_67 ?_
  obtain ⟨z42, e_z42, h⟩ := bnd h
  refine g_nmz e_z42 ?_
  have hu43 := raw.nm e_z42 (hu40.na 7 20)
  obtain ⟨I41, e_I41, h⟩ := bnd h
  refine g_nmM e_I41 ?_
  refine pr5_20 hX (pc := 69) hu43 fl_X5_36 hnm rfl dX5_init_69 ?_
  obtain ⟨z44, e_z44, h⟩ := bnd h
  refine g_nmz e_z44 ?_
  have hu45 := raw.nm e_z44 (hu43.st o0 20 (some (zs z39)))
  refine g_aload_n hX (pc := 72) (i := 0) dX5_init_72 rfl 0 rfl ?_
  refine g_bipush hX (pc := 73) (v := 32) dX5_init_73 (by decide) ?_
  refine g_newA8 hX (pc := 75) hr0 (N := 32) (by decide) (by decide) (by decide) (by decide) dX5_init_75 ?_
  obtain ⟨z47, e_z47, h⟩ := bnd h
  refine g_nmz e_z47 ?_
  have hu48 := raw.nm e_z47 (hu45.na 8 32)
  obtain ⟨J46, e_J46, h⟩ := bnd h
  refine g_nmMJ e_J46 ?_
  refine pr5_21 hX (pc := 77) hu48 fl_X5_39 hnm rfl dX5_init_77 ?_
  obtain ⟨z49, e_z49, h⟩ := bnd h
  refine g_nmz e_z49 ?_
  have hu50 := raw.nm e_z49 (hu48.st o0 21 (some (zs z44)))
  refine g_aload_n hX (pc := 80) (i := 0) dX5_init_80 rfl 0 rfl ?_
  refine g_bipush hX (pc := 81) (v := 32) dX5_init_81 (by decide) ?_
  refine g_newA7 hX (pc := 83) hr0 (N := 32) (by decide) (by decide) (by decide) (by decide) dX5_init_83 ?_
  obtain ⟨z52, e_z52, h⟩ := bnd h
  refine g_nmz e_z52 ?_
  have hu53 := raw.nm e_z52 (hu50.na 7 32)
  obtain ⟨I51, e_I51, h⟩ := bnd h
  refine g_nmM e_I51 ?_
  refine pr5_22 hX (pc := 85) hu53 fl_X5_42 hnm rfl dX5_init_85 ?_
  obtain ⟨z54, e_z54, h⟩ := bnd h
  refine g_nmz e_z54 ?_
  have hu55 := raw.nm e_z54 (hu53.st o0 22 (some (zs z49)))
  refine g_aload_n hX (pc := 88) (i := 0) dX5_init_88 rfl 0 rfl ?_
  refine g_sipush hX (pc := 89) (v := 320) dX5_init_89 (by decide) ?_
  refine g_newA7 hX (pc := 92) hr0 (N := 320) (by decide) (by decide) (by decide) (by decide) dX5_init_92 ?_
  obtain ⟨z57, e_z57, h⟩ := bnd h
  refine g_nmz e_z57 ?_
  have hu58 := raw.nm e_z57 (hu55.na 7 320)
  obtain ⟨I56, e_I56, h⟩ := bnd h
  refine g_nmM e_I56 ?_
  refine pr5_23 hX (pc := 94) hu58 fl_X5_45 hnm rfl dX5_init_94 ?_
  obtain ⟨z59, e_z59, h⟩ := bnd h
  refine g_nmz e_z59 ?_
  have hu60 := raw.nm e_z59 (hu58.st o0 23 (some (zs z54)))
  refine g_aload_n hX (pc := 97) (i := 0) dX5_init_97 rfl 0 rfl ?_
  refine g_sipush hX (pc := 98) (v := 2117) dX5_init_98 (by decide) ?_
  refine g_newA7 hX (pc := 101) hr0 (N := 2117) (by decide) (by decide) (by decide) (by decide) dX5_init_101 ?_
  obtain ⟨z62, e_z62, h⟩ := bnd h
  refine g_nmz e_z62 ?_
  have hu63 := raw.nm e_z62 (hu60.na 7 2117)
  obtain ⟨I61, e_I61, h⟩ := bnd h
  refine g_nmM e_I61 ?_
  refine pr5_27 hX (pc := 103) hu63 fl_X5_48 hnm rfl dX5_init_103 ?_
  obtain ⟨z64, e_z64, h⟩ := bnd h
  refine g_nmz e_z64 ?_
  have hu65 := raw.nm e_z64 (hu63.st o0 27 (some (zs z59)))
  refine g_aload_n hX (pc := 106) (i := 0) dX5_init_106 rfl 0 rfl ?_
  refine g_sipush hX (pc := 107) (v := 25404) dX5_init_107 (by decide) ?_
  refine g_newA7 hX (pc := 110) hr0 (N := 25404) (by decide) (by decide) (by decide) (by decide) dX5_init_110 ?_
  obtain ⟨z67, e_z67, h⟩ := bnd h
  refine g_nmz e_z67 ?_
  have hu68 := raw.nm e_z67 (hu65.na 7 25404)
  obtain ⟨I66, e_I66, h⟩ := bnd h
  refine g_nmM e_I66 ?_
  refine pr5_28 hX (pc := 112) hu68 fl_X5_51 hnm rfl dX5_init_112 ?_
  obtain ⟨z69, e_z69, h⟩ := bnd h
  refine g_nmz e_z69 ?_
  have hu70 := raw.nm e_z69 (hu68.st o0 28 (some (zs z64)))
  refine g_aload_n hX (pc := 115) (i := 0) dX5_init_115 rfl 0 rfl ?_
  refine g_sipush hX (pc := 116) (v := 4234) dX5_init_116 (by decide) ?_
  refine g_newA7 hX (pc := 119) hr0 (N := 4234) (by decide) (by decide) (by decide) (by decide) dX5_init_119 ?_
  obtain ⟨z72, e_z72, h⟩ := bnd h
  refine g_nmz e_z72 ?_
  have hu73 := raw.nm e_z72 (hu70.na 7 4234)
  obtain ⟨I71, e_I71, h⟩ := bnd h
  refine g_nmM e_I71 ?_
  refine pr5_30 hX (pc := 121) hu73 fl_X5_54 hnm rfl dX5_init_121 ?_
  obtain ⟨z74, e_z74, h⟩ := bnd h
  refine g_nmz e_z74 ?_
  have hu75 := raw.nm e_z74 (hu73.st o0 30 (some (zs z69)))
  refine g_aload_n hX (pc := 124) (i := 0) dX5_init_124 rfl 0 rfl ?_
  refine g_iconst hX (pc := 125) (v := 2) dX5_init_125 (by decide) ?_
  refine g_newA9 hX (pc := 126) hr0 (N := 2) (by decide) (by decide) (by decide) (by decide) dX5_init_126 ?_
  obtain ⟨z77, e_z77, h⟩ := bnd h
  refine g_nmz e_z77 ?_
  have hu78 := raw.nm e_z77 (hu75.na 9 2)
  obtain ⟨I76, e_I76, h⟩ := bnd h
  refine g_nmM e_I76 ?_
  refine pr5_31 hX (pc := 128) hu78 fl_X5_57 hnm rfl dX5_init_128 ?_
  obtain ⟨z79, e_z79, h⟩ := bnd h
  refine g_nmz e_z79 ?_
  have hu80 := raw.nm e_z79 (hu78.st o0 31 (some (zs z74)))
  refine g_aload_n hX (pc := 131) (i := 0) dX5_init_131 rfl 0 rfl ?_
  refine g_sipush hX (pc := 132) (v := 2117) dX5_init_132 (by decide) ?_
  refine g_newA7 hX (pc := 135) hr0 (N := 2117) (by decide) (by decide) (by decide) (by decide) dX5_init_135 ?_
  obtain ⟨z82, e_z82, h⟩ := bnd h
  refine g_nmz e_z82 ?_
  have hu83 := raw.nm e_z82 (hu80.na 7 2117)
  obtain ⟨I81, e_I81, h⟩ := bnd h
  refine g_nmM e_I81 ?_
  refine pr5_32 hX (pc := 137) hu83 fl_X5_61 hnm rfl dX5_init_137 ?_
  obtain ⟨z84, e_z84, h⟩ := bnd h
  refine g_nmz e_z84 ?_
  have hu85 := raw.nm e_z84 (hu83.st o0 32 (some (zs z79)))
  refine g_aload_n hX (pc := 140) (i := 0) dX5_init_140 rfl 0 rfl ?_
  refine g_bipush hX (pc := 141) (v := 10) dX5_init_141 (by decide) ?_
  refine g_newA7 hX (pc := 143) hr0 (N := 10) (by decide) (by decide) (by decide) (by decide) dX5_init_143 ?_
  obtain ⟨z87, e_z87, h⟩ := bnd h
  refine g_nmz e_z87 ?_
  have hu88 := raw.nm e_z87 (hu85.na 7 10)
  obtain ⟨I86, e_I86, h⟩ := bnd h
  refine g_nmM e_I86 ?_
  refine pr5_33 hX (pc := 145) hu88 fl_X5_64 hnm rfl dX5_init_145 ?_
  obtain ⟨z89, e_z89, h⟩ := bnd h
  refine g_nmz e_z89 ?_
  have hu90 := raw.nm e_z89 (hu88.st o0 33 (some (zs z84)))
  refine g_aload_n hX (pc := 148) (i := 0) dX5_init_148 rfl 0 rfl ?_
  refine g_bipush hX (pc := 149) (v := 10) dX5_init_149 (by decide) ?_
  refine g_newA7 hX (pc := 151) hr0 (N := 10) (by decide) (by decide) (by decide) (by decide) dX5_init_151 ?_
  obtain ⟨z92, e_z92, h⟩ := bnd h
  refine g_nmz e_z92 ?_
  have hu93 := raw.nm e_z92 (hu90.na 7 10)
  obtain ⟨I91, e_I91, h⟩ := bnd h
  refine g_nmM e_I91 ?_
  refine pr5_34 hX (pc := 153) hu93 fl_X5_67 hnm rfl dX5_init_153 ?_
  obtain ⟨z94, e_z94, h⟩ := bnd h
  refine g_nmz e_z94 ?_
  have hu95 := raw.nm e_z94 (hu93.st o0 34 (some (zs z89)))
  refine g_aload_n hX (pc := 156) (i := 0) dX5_init_156 rfl 0 rfl ?_
  refine g_bipush hX (pc := 157) (v := 16) dX5_init_157 (by decide) ?_
  refine g_newA7 hX (pc := 159) hr0 (N := 16) (by decide) (by decide) (by decide) (by decide) dX5_init_159 ?_
  obtain ⟨z97, e_z97, h⟩ := bnd h
  refine g_nmz e_z97 ?_
  have hu98 := raw.nm e_z97 (hu95.na 7 16)
  obtain ⟨I96, e_I96, h⟩ := bnd h
  refine g_nmM e_I96 ?_
  refine pr5_36 hX (pc := 161) hu98 fl_X5_70 hnm rfl dX5_init_161 ?_
  obtain ⟨z99, e_z99, h⟩ := bnd h
  refine g_nmz e_z99 ?_
  have hu100 := raw.nm e_z99 (hu98.st o0 36 (some (zs z94)))
  refine g_aload_n hX (pc := 164) (i := 0) dX5_init_164 rfl 0 rfl ?_
  refine g_bipush hX (pc := 165) (v := 10) dX5_init_165 (by decide) ?_
  refine g_newA7 hX (pc := 167) hr0 (N := 10) (by decide) (by decide) (by decide) (by decide) dX5_init_167 ?_
  obtain ⟨z102, e_z102, h⟩ := bnd h
  refine g_nmz e_z102 ?_
  have hu103 := raw.nm e_z102 (hu100.na 7 10)
  obtain ⟨I101, e_I101, h⟩ := bnd h
  refine g_nmM e_I101 ?_
  refine pr5_37 hX (pc := 169) hu103 fl_X5_73 hnm rfl dX5_init_169 ?_
  obtain ⟨z104, e_z104, h⟩ := bnd h
  refine g_nmz e_z104 ?_
  have hu105 := raw.nm e_z104 (hu103.st o0 37 (some (zs z99)))
  refine g_aload_n hX (pc := 172) (i := 0) dX5_init_172 rfl 0 rfl ?_
  refine g_bipush hX (pc := 173) (v := 10) dX5_init_173 (by decide) ?_
  refine g_newA7 hX (pc := 175) hr0 (N := 10) (by decide) (by decide) (by decide) (by decide) dX5_init_175 ?_
  obtain ⟨z107, e_z107, h⟩ := bnd h
  refine g_nmz e_z107 ?_
  have hu108 := raw.nm e_z107 (hu105.na 7 10)
  obtain ⟨I106, e_I106, h⟩ := bnd h
  refine g_nmM e_I106 ?_
  refine pr5_38 hX (pc := 177) hu108 fl_X5_76 hnm rfl dX5_init_177 ?_
  obtain ⟨z109, e_z109, h⟩ := bnd h
  refine g_nmz e_z109 ?_
  have hu110 := raw.nm e_z109 (hu108.st o0 38 (some (zs z104)))
  refine g_aload_n hX (pc := 180) (i := 0) dX5_init_180 rfl 0 rfl ?_
  refine g_iconst hX (pc := 181) (v := 0) dX5_init_181 (by decide) ?_
  obtain ⟨g111, e_g111, h⟩ := bnd h
  obtain ⟨r112, e_r112, h⟩ := bnd h
  refine g_callVv hX (pc := 182) (d := d + 0) hr0 [.int 0] (c := 5) (ct_X5_plain (d := d + 0) (gd_some e_g111) e_r112) (gd_some e_g111).1.1 (gd_some e_g111).1.2 (by decide) rfl co_X5_plain ml_X5_79 im_X5_plain sl_X5_plain ini_X5 nm_X5_plain (by decide) (by decide) (Nat.le_refl _) (Nat.le_of_ble_eq_true rfl) rfl dX5_init_182 ?_
  refine g_aload_n hX (pc := 185) (i := 0) dX5_init_185 rfl 0 rfl ?_
  obtain ⟨r113, e_r113, h⟩ := bnd h
  refine g_callVv hX (pc := 186) (d := d + 0) hr0 [] (c := 5) (ct_X5_empties (d := d + 0) (gd_some e_g111) e_r113) (gd_some e_g111).1.1 (gd_some e_g111).1.2 (by decide) rfl co_X5_empties ml_X5_83 im_X5_empties sl_X5_empties ini_X5 nm_X5_empties (by decide) (by decide) (Nat.le_refl _) (Nat.le_of_ble_eq_true rfl) rfl dX5_init_186 ?_
  replace h := Option.some.inj h
  obtain ⟨rfl, hT0⟩ := Prod.mk.inj h
  obtain ⟨rfl, rfl⟩ := Prod.mk.inj hT0
  exact g_return hX (by decide) (by decide) dX5_init_189
