noncomputable def b_X5_itemsOf_17 (o0 : Nat) (x1 : Int32) (I : MI) (s2 : Int32) (s : Int32 × Int32) : Option ((Int32 × Int32) ⊕ (Int32 × Int32)) :=
  if s.2 < 10 then
    (if ((x1 >>> (s2 &&& 31)) &&& 1) = 1 then
      (rd 320 (I (o0 + 12)) ((10 * s2) + s.2)).bind fun v12 =>
      if 0 < v12 then
        some ((1 : Int32) <<< (s.2 &&& 31))
      else
        some 0
    else
      some 0).bind fun (p14 : Int32) =>
    some (.inl ((s.1 ||| p14, s.2 + 1)))
  else
    some (.inr ((s.1, s.2)))
noncomputable def b_X5_itemsOf_4 (o0 : Nat) (x1 : Int32) (I : MI) (s : Int32 × Int32) : Option ((Int32 × Int32) ⊕ (Int32 × Int32)) :=
  (rd 2 (I (o0 + 3)) 0).bind fun v4 =>
  if s.2 < v4 then
    (lp (b_X5_itemsOf_17 o0 x1 I s.2) ((s.1, 0))).bind fun p15 =>
    some (.inl ((p15.1, s.2 + 1)))
  else
    some (.inr ((s.1, s.2)))
noncomputable def f_X5_itemsOf (o0 : Nat) (x1 : Int32) (J : MJ) (I : MI) : Option (Int32) :=
  (lp (b_X5_itemsOf_4 o0 x1 I) ((0, 0))).bind fun p16 =>
  some p16.1
theorem nm_X5_itemsOf : yX5_itemsOf.cls ≠ "java/lang/invoke/MethodHandle" ∧ yX5_itemsOf.cls ≠ "java/lang/invoke/VarHandle" ∧ (parseMethodDescriptor yX5_itemsOf.desc).map (fun d => d.parameters.length) = some 1 := by decide +kernel
set_option maxRecDepth 100000 in
set_option maxHeartbeats 4000000 in
theorem ct_X5_itemsOf {E : Ev} {d : Nat} {z : Sh} {J : MJ} {I : MI} {o0 : Nat} {x1 : Int32} {rr : Int32} (ho0 : oX5 z o0) (h : f_X5_itemsOf o0 x1 J I = some rr) : Ct E (d + 0) yX5_itemsOf cX5_itemsOf 5 (some .int) 0 0 [.ref o0, .int x1] z J I (some (.int rr)) z J I := by
  unfold f_X5_itemsOf at h
  refine Ct.of (own := RX5) (ls := [(0, .ref o0), (1, .int x1)]) (by decide) rfl (Nat.le_of_ble_eq_true rfl) rfl ?_
  intro X hr0 hnm hX
  refine g_iconst hX (pc := 0) (v := 0) dX5_itemsOf_0 (by decide) ?_
  refine g_istore_n hX (pc := 1) (i := 2) (ls' := [(0, .ref o0), (1, .int x1), (2, .int 0)]) [1, 2, 0] dX5_itemsOf_1 rfl (by decide) rfl ?_
  refine g_iconst hX (pc := 2) (v := 0) dX5_itemsOf_2 (by decide) ?_
  refine g_istore_n hX (pc := 3) (i := 3) (ls' := [(0, .ref o0), (1, .int x1), (2, .int 0), (3, .int 0)]) [1, 2, 3, 0] dX5_itemsOf_3 rfl (by decide) rfl ?_
  obtain ⟨p16, hpl3, h⟩ := bnd h
  have Kl3 : ∀ ql3 : Int32 × Int32, ql3 = p16 → GW E X (QX E X 0 0 (some (.int rr)) z J I) 5 71 [(0, .ref o0), (1, .int x1), (2, .int ql3.1), (3, .int ql3.2)] [] z J I 0 0 := by
    intro ql3 hql3
    subst hql3
    refine g_iload_n hX (pc := 71) (i := 2) dX5_itemsOf_71 rfl 2 rfl ?_
    obtain rfl := Option.some.inj h
    exact g_ireturn hX (Nat.le_refl _) (Nat.le_refl _) dX5_itemsOf_72
  obtain ⟨kl3, hkl3⟩ := lp_ex hpl3
  clear hpl3 h
  have Ll3 : ∀ k : Nat, ∀ (s1 : Int32) (s2 : Int32), lpN k (b_X5_itemsOf_4 o0 x1 I) ((s1, s2)) = some p16 → GW E X (QX E X 0 0 (some (.int rr)) z J I) 5 4 [(0, .ref o0), (1, .int x1), (2, .int s1), (3, .int s2)] [] z J I 0 0 := by
    intro k
    induction k with
    | zero => intro s1 s2 h; cases h
    | succ k ihl3 =>
      intro s1 s2 h
      obtain ⟨wl3, h, hwl3⟩ := lpN_s h
      unfold b_X5_itemsOf_4 at h
      try dsimp only at h
      refine g_iload_n hX (pc := 4) (i := 3) dX5_itemsOf_4 rfl 3 rfl ?_
      refine g_aload_n hX (pc := 5) (i := 0) dX5_itemsOf_5 rfl 0 rfl ?_
      refine gf5_14 hX (pc := 6) ho0 fl_X5_17 dX5_itemsOf_6 ?_
      refine g_iconst hX (pc := 9) (v := 0) dX5_itemsOf_9 (by decide) ?_
      obtain ⟨v4, e_v4, h⟩ := bnd h
      refine g_ialoadE hX (pc := 10) (s5_14 ho0).1 (s5_14 ho0).2.1 (s5_14 ho0).2.2.1 e_v4 dX5_itemsOf_10 ?_
      refine g_icmp_ge hX (pc := 11) dX5_itemsOf_11 (tgt := 71) (by decide) (fun c5 => ?_) (fun c5 => ?_)
      · replace h := ifP c5 h
        refine g_iconst hX (pc := 14) (v := 0) dX5_itemsOf_14 (by decide) ?_
        refine g_istore hX (pc := 15) (ls' := [(0, .ref o0), (1, .int x1), (2, .int s1), (3, .int s2), (4, .int 0)]) [1, 2, 3, 4, 0] dX5_itemsOf_15 (by decide) rfl ?_
        obtain ⟨p15, hpl8, h⟩ := bnd h
        have Kl8 : ∀ ql8 : Int32 × Int32, ql8 = p15 → GW E X (QX E X 0 0 (some (.int rr)) z J I) 5 65 [(0, .ref o0), (1, .int x1), (2, .int ql8.1), (3, .int s2), (4, .int ql8.2)] [] z J I 0 0 := by
          intro ql8 hql8
          subst hql8
          refine g_iinc hX (pc := 65) (i := 3) (v := s2 + 1) (ls' := [(0, .ref o0), (1, .int x1), (2, .int ql8.1), (3, .int (s2 + 1)), (4, .int ql8.2)]) 3 [1, 2, 3, 0, 4] dX5_itemsOf_65 rfl (by rfl) (by decide) rfl ?_
          refine g_goto hX (pc := 68) (tgt := 4) dX5_itemsOf_68 (by decide) ?_
          refine g_sub (ls' := [(0, .ref o0), (1, .int x1), (2, .int ql8.1), (3, .int (s2 + 1))]) [0, 1, 2, 3] rfl ?_
          obtain rfl := Option.some.inj h
          exact ihl3 ql8.1 (s2 + 1) hwl3
        obtain ⟨kl8, hkl8⟩ := lp_ex hpl8
        clear hpl8 h
        have Ll8 : ∀ k : Nat, ∀ (s6 : Int32) (s7 : Int32), lpN k (b_X5_itemsOf_17 o0 x1 I s2) ((s6, s7)) = some p15 → GW E X (QX E X 0 0 (some (.int rr)) z J I) 5 17 [(0, .ref o0), (1, .int x1), (2, .int s6), (3, .int s2), (4, .int s7)] [] z J I 0 0 := by
          intro k
          induction k with
          | zero => intro s6 s7 h; cases h
          | succ k ihl8 =>
            intro s6 s7 h
            obtain ⟨wl8, h, hwl8⟩ := lpN_s h
            unfold b_X5_itemsOf_17 at h
            try dsimp only at h
            refine g_iload hX (pc := 17) dX5_itemsOf_17 4 rfl ?_
            refine g_bipush hX (pc := 19) (v := 10) dX5_itemsOf_19 (by decide) ?_
            refine g_icmp_ge hX (pc := 21) dX5_itemsOf_21 (tgt := 65) (by decide) (fun c9 => ?_) (fun c9 => ?_)
            · replace h := ifP c9 h
              refine g_iload_n hX (pc := 24) (i := 2) dX5_itemsOf_24 rfl 2 rfl ?_
              refine g_iload_n hX (pc := 25) (i := 1) dX5_itemsOf_25 rfl 1 rfl ?_
              refine g_iload_n hX (pc := 26) (i := 3) dX5_itemsOf_26 rfl 3 rfl ?_
              refine g_ishr hX (pc := 27) dX5_itemsOf_27 ?_
              refine g_iconst hX (pc := 28) (v := 1) dX5_itemsOf_28 (by decide) ?_
              refine g_iand hX (pc := 29) dX5_itemsOf_29 ?_
              refine g_iconst hX (pc := 30) (v := 1) dX5_itemsOf_30 (by decide) ?_
              obtain ⟨p14, hpj11, h⟩ := bnd h
              have Kj11 : ∀ qj11 : Int32, qj11 = p14 → GW E X (QX E X 0 0 (some (.int rr)) z J I) 5 57 [(0, .ref o0), (1, .int x1), (2, .int s6), (3, .int s2), (4, .int s7)] [.int qj11, .int s6] z J I 0 0 := by
                intro qj11 hqj11
                subst hqj11
                refine g_ior hX (pc := 57) dX5_itemsOf_57 ?_
                refine g_istore_n hX (pc := 58) (i := 2) (ls' := [(0, .ref o0), (1, .int x1), (2, .int (s6 ||| qj11)), (3, .int s2), (4, .int s7)]) [1, 2, 0, 3, 4] dX5_itemsOf_58 rfl (by decide) rfl ?_
                refine g_iinc hX (pc := 59) (i := 4) (v := s7 + 1) (ls' := [(0, .ref o0), (1, .int x1), (2, .int (s6 ||| qj11)), (3, .int s2), (4, .int (s7 + 1))]) 4 [1, 2, 3, 4, 0] dX5_itemsOf_59 rfl (by rfl) (by decide) rfl ?_
                refine g_goto hX (pc := 62) (tgt := 17) dX5_itemsOf_62 (by decide) ?_
                obtain rfl := Option.some.inj h
                exact ihl8 (s6 ||| qj11) (s7 + 1) hwl8
              replace h := hpj11
              clear hpj11
              refine g_icmp_ne hX (pc := 31) dX5_itemsOf_31 (tgt := 56) (by decide) (fun c10 => ?_) (fun c10 => ?_)
              · replace h := ifP c10 h
                refine g_aload_n hX (pc := 34) (i := 0) dX5_itemsOf_34 rfl 0 rfl ?_
                refine gf5_23 hX (pc := 35) ho0 fl_X5_45 dX5_itemsOf_35 ?_
                refine g_bipush hX (pc := 38) (v := 10) dX5_itemsOf_38 (by decide) ?_
                refine g_iload_n hX (pc := 40) (i := 3) dX5_itemsOf_40 rfl 3 rfl ?_
                refine g_imul hX (pc := 41) dX5_itemsOf_41 ?_
                refine g_iload hX (pc := 42) dX5_itemsOf_42 4 rfl ?_
                refine g_iadd hX (pc := 44) dX5_itemsOf_44 ?_
                obtain ⟨v12, e_v12, h⟩ := bnd h
                refine g_ialoadE hX (pc := 45) (s5_23 ho0).1 (s5_23 ho0).2.1 (s5_23 ho0).2.2.1 e_v12 dX5_itemsOf_45 ?_
                refine g_if_le hX (pc := 46) dX5_itemsOf_46 (tgt := 56) (by decide) (fun c13 => ?_) (fun c13 => ?_)
                · replace h := ifP c13 h
                  refine g_iconst hX (pc := 49) (v := 1) dX5_itemsOf_49 (by decide) ?_
                  refine g_iload hX (pc := 50) dX5_itemsOf_50 4 rfl ?_
                  refine g_ishl hX (pc := 52) dX5_itemsOf_52 ?_
                  refine g_goto hX (pc := 53) (tgt := 57) dX5_itemsOf_53 (by decide) ?_
                  exact Kj11 ((1 : Int32) <<< (s7 &&& 31)) (Option.some.inj h)
                · replace h := ifN c13 h
                  refine g_iconst hX (pc := 56) (v := 0) dX5_itemsOf_56 (by decide) ?_
                  exact Kj11 0 (Option.some.inj h)
              · replace h := ifN c10 h
                refine g_iconst hX (pc := 56) (v := 0) dX5_itemsOf_56 (by decide) ?_
                exact Kj11 0 (Option.some.inj h)
            · replace h := ifN c9 h
              obtain rfl := Option.some.inj h
              exact Kl8 ((s6, s7)) hwl8
        exact Ll8 kl8 s1 0 hkl8
      · replace h := ifN c5 h
        obtain rfl := Option.some.inj h
        exact Kl3 ((s1, s2)) hwl3
  exact Ll3 kl3 0 0 hkl3
noncomputable def b_X5_count1_4  (s : Int32 × Int32) : Option ((Int32 × Int32) ⊕ (Int32 × Int32)) :=
  if s.2 = 0 then
    some (.inr ((s.1, s.2)))
  else
    some (.inl ((s.1 + 1, s.2 &&& (s.2 - 1))))
noncomputable def f_X5_count1 (x0 : Int32)  : Option (Int32) :=
  (lp (b_X5_count1_4) ((0, x0))).bind fun p5 =>
  some p5.1
theorem nm_X5_count1 : yX5_count1.cls ≠ "java/lang/invoke/MethodHandle" ∧ yX5_count1.cls ≠ "java/lang/invoke/VarHandle" ∧ (parseMethodDescriptor yX5_count1.desc).map (fun d => d.parameters.length) = some 1 := by decide +kernel
set_option maxRecDepth 100000 in
set_option maxHeartbeats 4000000 in
theorem ct_X5_count1 {E : Ev} {d : Nat} {z : Sh} {J : MJ} {I : MI} {x0 : Int32} {rr : Int32}  (h : f_X5_count1 x0 = some rr) : Ct E (d + 0) yX5_count1 cX5_count1 3 (some .int) 0 0 [.int x0] z J I (some (.int rr)) z J I := by
  unfold f_X5_count1 at h
  refine Ct.of (own := RX5) (ls := [(0, .int x0)]) (by decide) rfl (Nat.le_of_ble_eq_true rfl) rfl ?_
  intro X hr0 hnm hX
  refine g_iconst hX (pc := 0) (v := 0) dX5_count1_0 (by decide) ?_
  refine g_istore_n hX (pc := 1) (i := 1) (ls' := [(0, .int x0), (1, .int 0)]) [1, 0] dX5_count1_1 rfl (by decide) rfl ?_
  refine g_iload_n hX (pc := 2) (i := 0) dX5_count1_2 rfl 0 rfl ?_
  refine g_istore_n hX (pc := 3) (i := 2) (ls' := [(0, .int x0), (1, .int 0), (2, .int x0)]) [1, 2, 0] dX5_count1_3 rfl (by decide) rfl ?_
  obtain ⟨p5, hpl3, h⟩ := bnd h
  have Kl3 : ∀ ql3 : Int32 × Int32, ql3 = p5 → GW E X (QX E X 0 0 (some (.int rr)) z J I) 3 20 [(0, .int x0), (1, .int ql3.1), (2, .int ql3.2)] [] z J I 0 0 := by
    intro ql3 hql3
    subst hql3
    refine g_iload_n hX (pc := 20) (i := 1) dX5_count1_20 rfl 1 rfl ?_
    obtain rfl := Option.some.inj h
    exact g_ireturn hX (Nat.le_refl _) (Nat.le_refl _) dX5_count1_21
  obtain ⟨kl3, hkl3⟩ := lp_ex hpl3
  clear hpl3 h
  have Ll3 : ∀ k : Nat, ∀ (s1 : Int32) (s2 : Int32), lpN k (b_X5_count1_4) ((s1, s2)) = some p5 → GW E X (QX E X 0 0 (some (.int rr)) z J I) 3 4 [(0, .int x0), (1, .int s1), (2, .int s2)] [] z J I 0 0 := by
    intro k
    induction k with
    | zero => intro s1 s2 h; cases h
    | succ k ihl3 =>
      intro s1 s2 h
      obtain ⟨wl3, h, hwl3⟩ := lpN_s h
      unfold b_X5_count1_4 at h
      try dsimp only at h
      refine g_iload_n hX (pc := 4) (i := 2) dX5_count1_4 rfl 2 rfl ?_
      refine g_if_eq hX (pc := 5) dX5_count1_5 (tgt := 20) (by decide) (fun c4 => ?_) (fun c4 => ?_)
      · replace h := ifP c4 h
        obtain rfl := Option.some.inj h
        exact Kl3 ((s1, s2)) hwl3
      · replace h := ifN c4 h
        refine g_iinc hX (pc := 8) (i := 1) (v := s1 + 1) (ls' := [(0, .int x0), (1, .int (s1 + 1)), (2, .int s2)]) 1 [1, 0, 2] dX5_count1_8 rfl (by rfl) (by decide) rfl ?_
        refine g_iload_n hX (pc := 11) (i := 2) dX5_count1_11 rfl 2 rfl ?_
        refine g_iload_n hX (pc := 12) (i := 2) dX5_count1_12 rfl 2 rfl ?_
        refine g_iconst hX (pc := 13) (v := 1) dX5_count1_13 (by decide) ?_
        refine g_isub hX (pc := 14) dX5_count1_14 ?_
        refine g_iand hX (pc := 15) dX5_count1_15 ?_
        refine g_istore_n hX (pc := 16) (i := 2) (ls' := [(0, .int x0), (1, .int (s1 + 1)), (2, .int (s2 &&& (s2 - 1)))]) [1, 2, 0] dX5_count1_16 rfl (by decide) rfl ?_
        refine g_goto hX (pc := 17) (tgt := 4) dX5_count1_17 (by decide) ?_
        obtain rfl := Option.some.inj h
        exact ihl3 (s1 + 1) (s2 &&& (s2 - 1)) hwl3
  exact Ll3 kl3 0 x0 hkl3
noncomputable def b_X5_waiting_4 (o0 : Nat) (I : MI) (s : Int32 × Int32) : Option ((Int32 × Int32) ⊕ (Int32 × Int32)) :=
  (rd 2 (I (o0 + 3)) 0).bind fun v4 =>
  if s.2 < v4 then
    (rd 2117 (I (o0 + 13)) (330 + s.2)).bind fun v6 =>
    (if v6 = 0 then
      some ((1 : Int32) <<< (s.2 &&& 31))
    else
      some 0).bind fun (p9 : Int32) =>
    some (.inl ((s.1 ||| p9, s.2 + 1)))
  else
    some (.inr ((s.1, s.2)))
noncomputable def f_X5_waiting (o0 : Nat) (J : MJ) (I : MI) : Option (Int32) :=
  (lp (b_X5_waiting_4 o0 I) ((0, 0))).bind fun p10 =>
  some p10.1
theorem nm_X5_waiting : yX5_waiting.cls ≠ "java/lang/invoke/MethodHandle" ∧ yX5_waiting.cls ≠ "java/lang/invoke/VarHandle" ∧ (parseMethodDescriptor yX5_waiting.desc).map (fun d => d.parameters.length) = some 0 := by decide +kernel
set_option maxRecDepth 100000 in
set_option maxHeartbeats 4000000 in
theorem ct_X5_waiting {E : Ev} {d : Nat} {z : Sh} {J : MJ} {I : MI} {o0 : Nat} {rr : Int32} (ho0 : oX5 z o0) (h : f_X5_waiting o0 J I = some rr) : Ct E (d + 0) yX5_waiting cX5_waiting 3 (some .int) 0 0 [.ref o0] z J I (some (.int rr)) z J I := by
  unfold f_X5_waiting at h
  refine Ct.of (own := RX5) (ls := [(0, .ref o0)]) (by decide) rfl (Nat.le_of_ble_eq_true rfl) rfl ?_
  intro X hr0 hnm hX
  refine g_iconst hX (pc := 0) (v := 0) dX5_waiting_0 (by decide) ?_
  refine g_istore_n hX (pc := 1) (i := 1) (ls' := [(0, .ref o0), (1, .int 0)]) [1, 0] dX5_waiting_1 rfl (by decide) rfl ?_
  refine g_iconst hX (pc := 2) (v := 0) dX5_waiting_2 (by decide) ?_
  refine g_istore_n hX (pc := 3) (i := 2) (ls' := [(0, .ref o0), (1, .int 0), (2, .int 0)]) [1, 2, 0] dX5_waiting_3 rfl (by decide) rfl ?_
  obtain ⟨p10, hpl3, h⟩ := bnd h
  have Kl3 : ∀ ql3 : Int32 × Int32, ql3 = p10 → GW E X (QX E X 0 0 (some (.int rr)) z J I) 3 43 [(0, .ref o0), (1, .int ql3.1), (2, .int ql3.2)] [] z J I 0 0 := by
    intro ql3 hql3
    subst hql3
    refine g_iload_n hX (pc := 43) (i := 1) dX5_waiting_43 rfl 1 rfl ?_
    obtain rfl := Option.some.inj h
    exact g_ireturn hX (Nat.le_refl _) (Nat.le_refl _) dX5_waiting_44
  obtain ⟨kl3, hkl3⟩ := lp_ex hpl3
  clear hpl3 h
  have Ll3 : ∀ k : Nat, ∀ (s1 : Int32) (s2 : Int32), lpN k (b_X5_waiting_4 o0 I) ((s1, s2)) = some p10 → GW E X (QX E X 0 0 (some (.int rr)) z J I) 3 4 [(0, .ref o0), (1, .int s1), (2, .int s2)] [] z J I 0 0 := by
    intro k
    induction k with
    | zero => intro s1 s2 h; cases h
    | succ k ihl3 =>
      intro s1 s2 h
      obtain ⟨wl3, h, hwl3⟩ := lpN_s h
      unfold b_X5_waiting_4 at h
      try dsimp only at h
      refine g_iload_n hX (pc := 4) (i := 2) dX5_waiting_4 rfl 2 rfl ?_
      refine g_aload_n hX (pc := 5) (i := 0) dX5_waiting_5 rfl 0 rfl ?_
      refine gf5_14 hX (pc := 6) ho0 fl_X5_17 dX5_waiting_6 ?_
      refine g_iconst hX (pc := 9) (v := 0) dX5_waiting_9 (by decide) ?_
      obtain ⟨v4, e_v4, h⟩ := bnd h
      refine g_ialoadE hX (pc := 10) (s5_14 ho0).1 (s5_14 ho0).2.1 (s5_14 ho0).2.2.1 e_v4 dX5_waiting_10 ?_
      refine g_icmp_ge hX (pc := 11) dX5_waiting_11 (tgt := 43) (by decide) (fun c5 => ?_) (fun c5 => ?_)
      · replace h := ifP c5 h
        refine g_iload_n hX (pc := 14) (i := 1) dX5_waiting_14 rfl 1 rfl ?_
        refine g_aload_n hX (pc := 15) (i := 0) dX5_waiting_15 rfl 0 rfl ?_
        refine gf5_27 hX (pc := 16) ho0 fl_X5_48 dX5_waiting_16 ?_
        refine g_sipush hX (pc := 19) (v := 330) dX5_waiting_19 (by decide) ?_
        refine g_iload_n hX (pc := 22) (i := 2) dX5_waiting_22 rfl 2 rfl ?_
        refine g_iadd hX (pc := 23) dX5_waiting_23 ?_
        obtain ⟨v6, e_v6, h⟩ := bnd h
        refine g_ialoadE hX (pc := 24) (s5_27 ho0).1 (s5_27 ho0).2.1 (s5_27 ho0).2.2.1 e_v6 dX5_waiting_24 ?_
        obtain ⟨p9, hpj8, h⟩ := bnd h
        have Kj8 : ∀ qj8 : Int32, qj8 = p9 → GW E X (QX E X 0 0 (some (.int rr)) z J I) 3 35 [(0, .ref o0), (1, .int s1), (2, .int s2)] [.int qj8, .int s1] z J I 0 0 := by
          intro qj8 hqj8
          subst hqj8
          refine g_ior hX (pc := 35) dX5_waiting_35 ?_
          refine g_istore_n hX (pc := 36) (i := 1) (ls' := [(0, .ref o0), (1, .int (s1 ||| qj8)), (2, .int s2)]) [1, 0, 2] dX5_waiting_36 rfl (by decide) rfl ?_
          refine g_iinc hX (pc := 37) (i := 2) (v := s2 + 1) (ls' := [(0, .ref o0), (1, .int (s1 ||| qj8)), (2, .int (s2 + 1))]) 2 [1, 2, 0] dX5_waiting_37 rfl (by rfl) (by decide) rfl ?_
          refine g_goto hX (pc := 40) (tgt := 4) dX5_waiting_40 (by decide) ?_
          obtain rfl := Option.some.inj h
          exact ihl3 (s1 ||| qj8) (s2 + 1) hwl3
        replace h := hpj8
        clear hpj8
        refine g_if_ne hX (pc := 25) dX5_waiting_25 (tgt := 34) (by decide) (fun c7 => ?_) (fun c7 => ?_)
        · replace h := ifP c7 h
          refine g_iconst hX (pc := 28) (v := 1) dX5_waiting_28 (by decide) ?_
          refine g_iload_n hX (pc := 29) (i := 2) dX5_waiting_29 rfl 2 rfl ?_
          refine g_ishl hX (pc := 30) dX5_waiting_30 ?_
          refine g_goto hX (pc := 31) (tgt := 35) dX5_waiting_31 (by decide) ?_
          exact Kj8 ((1 : Int32) <<< (s2 &&& 31)) (Option.some.inj h)
        · replace h := ifN c7 h
          refine g_iconst hX (pc := 34) (v := 0) dX5_waiting_34 (by decide) ?_
          exact Kj8 0 (Option.some.inj h)
      · replace h := ifN c5 h
        obtain rfl := Option.some.inj h
        exact Kl3 ((s1, s2)) hwl3
  exact Ll3 kl3 0 0 hkl3
noncomputable def b_X5_firstOf_4 (o0 : Nat) (x1 : Int32) (J : MJ) (I : MI) (s : Int32 × Int32) : Option ((Int32 × Int32) ⊕ (Int32 × Int32)) :=
  (rd 2 (I (o0 + 3)) 0).bind fun v4 =>
  if s.2 < v4 then
    (if ((x1 >>> (s.2 &&& 31)) &&& 1) = 1 then
      if s.1 < 0 then
        some s.2
      else
        (f_X5_isEarlier o0 s.2 s.1 J I).bind fun r9 =>
        if r9 = 0 then
          some s.1
        else
          some s.2
    else
      some s.1).bind fun (p11 : Int32) =>
    some (.inl ((p11, s.2 + 1)))
  else
    some (.inr ((s.1, s.2)))
noncomputable def f_X5_firstOf (o0 : Nat) (x1 : Int32) (J : MJ) (I : MI) : Option (Int32) :=
  (lp (b_X5_firstOf_4 o0 x1 J I) (((-1), 0))).bind fun p12 =>
  some p12.1
theorem nm_X5_firstOf : yX5_firstOf.cls ≠ "java/lang/invoke/MethodHandle" ∧ yX5_firstOf.cls ≠ "java/lang/invoke/VarHandle" ∧ (parseMethodDescriptor yX5_firstOf.desc).map (fun d => d.parameters.length) = some 1 := by decide +kernel
set_option maxRecDepth 100000 in
set_option maxHeartbeats 4000000 in
theorem ct_X5_firstOf {E : Ev} {d : Nat} {z : Sh} {J : MJ} {I : MI} {o0 : Nat} {x1 : Int32} {rr : Int32} (ho0 : oX5 z o0) (h : f_X5_firstOf o0 x1 J I = some rr) : Ct E (d + 1) yX5_firstOf cX5_firstOf 4 (some .int) 0 0 [.ref o0, .int x1] z J I (some (.int rr)) z J I := by
  unfold f_X5_firstOf at h
  refine Ct.of (own := RX5) (ls := [(0, .ref o0), (1, .int x1)]) (by decide) rfl (Nat.le_of_ble_eq_true rfl) rfl ?_
  intro X hr0 hnm hX
  refine g_iconst hX (pc := 0) (v := (-1)) dX5_firstOf_0 (by decide) ?_
  refine g_istore_n hX (pc := 1) (i := 2) (ls' := [(0, .ref o0), (1, .int x1), (2, .int ((-1)))]) [1, 2, 0] dX5_firstOf_1 rfl (by decide) rfl ?_
  refine g_iconst hX (pc := 2) (v := 0) dX5_firstOf_2 (by decide) ?_
  refine g_istore_n hX (pc := 3) (i := 3) (ls' := [(0, .ref o0), (1, .int x1), (2, .int ((-1))), (3, .int 0)]) [1, 2, 3, 0] dX5_firstOf_3 rfl (by decide) rfl ?_
  obtain ⟨p12, hpl3, h⟩ := bnd h
  have Kl3 : ∀ ql3 : Int32 × Int32, ql3 = p12 → GW E X (QX E X 0 0 (some (.int rr)) z J I) 4 44 [(0, .ref o0), (1, .int x1), (2, .int ql3.1), (3, .int ql3.2)] [] z J I 0 0 := by
    intro ql3 hql3
    subst hql3
    refine g_iload_n hX (pc := 44) (i := 2) dX5_firstOf_44 rfl 2 rfl ?_
    obtain rfl := Option.some.inj h
    exact g_ireturn hX (Nat.le_refl _) (Nat.le_refl _) dX5_firstOf_45
  obtain ⟨kl3, hkl3⟩ := lp_ex hpl3
  clear hpl3 h
  have Ll3 : ∀ k : Nat, ∀ (s1 : Int32) (s2 : Int32), lpN k (b_X5_firstOf_4 o0 x1 J I) ((s1, s2)) = some p12 → GW E X (QX E X 0 0 (some (.int rr)) z J I) 4 4 [(0, .ref o0), (1, .int x1), (2, .int s1), (3, .int s2)] [] z J I 0 0 := by
    intro k
    induction k with
    | zero => intro s1 s2 h; cases h
    | succ k ihl3 =>
      intro s1 s2 h
      obtain ⟨wl3, h, hwl3⟩ := lpN_s h
      unfold b_X5_firstOf_4 at h
      try dsimp only at h
      refine g_iload_n hX (pc := 4) (i := 3) dX5_firstOf_4 rfl 3 rfl ?_
      refine g_aload_n hX (pc := 5) (i := 0) dX5_firstOf_5 rfl 0 rfl ?_
      refine gf5_14 hX (pc := 6) ho0 fl_X5_17 dX5_firstOf_6 ?_
      refine g_iconst hX (pc := 9) (v := 0) dX5_firstOf_9 (by decide) ?_
      obtain ⟨v4, e_v4, h⟩ := bnd h
      refine g_ialoadE hX (pc := 10) (s5_14 ho0).1 (s5_14 ho0).2.1 (s5_14 ho0).2.2.1 e_v4 dX5_firstOf_10 ?_
      refine g_icmp_ge hX (pc := 11) dX5_firstOf_11 (tgt := 44) (by decide) (fun c5 => ?_) (fun c5 => ?_)
      · replace h := ifP c5 h
        refine g_iload_n hX (pc := 14) (i := 1) dX5_firstOf_14 rfl 1 rfl ?_
        refine g_iload_n hX (pc := 15) (i := 3) dX5_firstOf_15 rfl 3 rfl ?_
        refine g_ishr hX (pc := 16) dX5_firstOf_16 ?_
        refine g_iconst hX (pc := 17) (v := 1) dX5_firstOf_17 (by decide) ?_
        refine g_iand hX (pc := 18) dX5_firstOf_18 ?_
        refine g_iconst hX (pc := 19) (v := 1) dX5_firstOf_19 (by decide) ?_
        obtain ⟨p11, hpj7, h⟩ := bnd h
        have Kj7 : ∀ qj7 : Int32, qj7 = p11 → GW E X (QX E X 0 0 (some (.int rr)) z J I) 4 38 [(0, .ref o0), (1, .int x1), (2, .int qj7), (3, .int s2)] [] z J I 0 0 := by
          intro qj7 hqj7
          subst hqj7
          refine g_iinc hX (pc := 38) (i := 3) (v := s2 + 1) (ls' := [(0, .ref o0), (1, .int x1), (2, .int qj7), (3, .int (s2 + 1))]) 3 [1, 2, 3, 0] dX5_firstOf_38 rfl (by rfl) (by decide) rfl ?_
          refine g_goto hX (pc := 41) (tgt := 4) dX5_firstOf_41 (by decide) ?_
          obtain rfl := Option.some.inj h
          exact ihl3 qj7 (s2 + 1) hwl3
        replace h := hpj7
        clear hpj7
        refine g_icmp_ne hX (pc := 20) dX5_firstOf_20 (tgt := 38) (by decide) (fun c6 => ?_) (fun c6 => ?_)
        · replace h := ifP c6 h
          refine g_iload_n hX (pc := 23) (i := 2) dX5_firstOf_23 rfl 2 rfl ?_
          refine g_if_lt hX (pc := 24) dX5_firstOf_24 (tgt := 36) (by decide) (fun c8 => ?_) (fun c8 => ?_)
          · replace h := ifP c8 h
            refine g_iload_n hX (pc := 36) (i := 3) dX5_firstOf_36 rfl 3 rfl ?_
            refine g_istore_n hX (pc := 37) (i := 2) (ls' := [(0, .ref o0), (1, .int x1), (2, .int s2), (3, .int s2)]) [1, 2, 0, 3] dX5_firstOf_37 rfl (by decide) rfl ?_
            exact Kj7 s2 (Option.some.inj h)
          · replace h := ifN c8 h
            refine g_aload_n hX (pc := 27) (i := 0) dX5_firstOf_27 rfl 0 rfl ?_
            refine g_iload_n hX (pc := 28) (i := 3) dX5_firstOf_28 rfl 3 rfl ?_
            refine g_iload_n hX (pc := 29) (i := 2) dX5_firstOf_29 rfl 2 rfl ?_
            obtain ⟨r9, e_r9, h⟩ := bnd h
            refine g_callVi hX (pc := 30) (d := d + 0) hr0 [.int s2, .int s1] (c := 5) (ct_X5_isEarlier (d := d + 0) ho0 e_r9) ho0.1.1 ho0.1.2 (by decide) rfl co_X5_isEarlier ml_X5_247 im_X5_isEarlier sl_X5_isEarlier ini_X5 nm_X5_isEarlier (by decide) ⟨Nat.le_refl _, Nat.le_refl _⟩ (Nat.le_refl _) (Nat.le_of_ble_eq_true rfl) rfl dX5_firstOf_30 ?_
            refine g_if_eq hX (pc := 33) dX5_firstOf_33 (tgt := 38) (by decide) (fun c10 => ?_) (fun c10 => ?_)
            · replace h := ifP c10 h
              exact Kj7 s1 (Option.some.inj h)
            · replace h := ifN c10 h
              refine g_iload_n hX (pc := 36) (i := 3) dX5_firstOf_36 rfl 3 rfl ?_
              refine g_istore_n hX (pc := 37) (i := 2) (ls' := [(0, .ref o0), (1, .int x1), (2, .int s2), (3, .int s2)]) [1, 2, 0, 3] dX5_firstOf_37 rfl (by decide) rfl ?_
              exact Kj7 s2 (Option.some.inj h)
        · replace h := ifN c6 h
          exact Kj7 s1 (Option.some.inj h)
      · replace h := ifN c5 h
        obtain rfl := Option.some.inj h
        exact Kl3 ((s1, s2)) hwl3
  exact Ll3 kl3 ((-1)) 0 hkl3
noncomputable def b_X5_nextTo_19 (o0 : Nat) (x1 : Int32) (x2 : Int32) (x3 : Int32) (J : MJ) (I : MI) (r1 : Int32) (s : Int32 × Int32 × Int32 × Int32) : Option ((Int32 × Int32 × Int32 × Int32) ⊕ (Int32 × Int32 × Int32 × Int32)) :=
  (rd 2 (I (o0 + 3)) 0).bind fun v7 =>
  if s.2.2.2 < v7 then
    (if ((x2 >>> (s.2.2.2 &&& 31)) &&& 1) = 0 then
      some ((s.1, s.2.1, s.2.2.1))
    else
      if ((x1 >>> (s.2.2.2 &&& 31)) &&& 1) = 1 then
        some ((s.1, s.2.1, s.2.2.1))
      else
        (f_X5_needOf o0 s.2.2.2 J I).bind fun r12 =>
        (rd 2 (I (o0 + 6)) 0).bind fun v13 =>
        if v13 < (x3 + r12) then
          some ((s.1, s.2.1, s.2.2.1))
        else
          (f_X5_itemsOf o0 ((1 : Int32) <<< (s.2.2.2 &&& 31)) J I).bind fun r15 =>
          (f_X5_count1 (r15 &&& r1)).bind fun r16 =>
          (f_X5_count1 (r15 &&& (r1 ^^^ ((-1))))).bind fun r17 =>
          (if s.1 < 0 then
            some 1
          else
            if s.2.1 < r16 then
              some 1
            else
              if r16 = s.2.1 then
                if r17 < s.2.2.1 then
                  some 1
                else
                  if r17 = s.2.2.1 then
                    (f_X5_isEarlier o0 s.2.2.2 s.1 J I).bind fun r24 =>
                    if r24 = 0 then
                      some 0
                    else
                      some 1
                  else
                    some 0
              else
                some 0).bind fun (p26 : Int32) =>
          if p26 = 0 then
            some ((s.1, s.2.1, s.2.2.1))
          else
            some ((s.2.2.2, r16, r17))).bind fun (p28 : Int32 × Int32 × Int32) =>
    some (.inl ((p28.1, p28.2.1, p28.2.2, s.2.2.2 + 1)))
  else
    some (.inr ((s.1, s.2.1, s.2.2.1, s.2.2.2)))
noncomputable def f_X5_nextTo (o0 : Nat) (x1 : Int32) (x2 : Int32) (x3 : Int32) (J : MJ) (I : MI) : Option (Int32) :=
  (f_X5_itemsOf o0 x1 J I).bind fun r1 =>
  (lp (b_X5_nextTo_19 o0 x1 x2 x3 J I r1) (((-1), 0, 0, 0))).bind fun p29 =>
  some p29.1
theorem nm_X5_nextTo : yX5_nextTo.cls ≠ "java/lang/invoke/MethodHandle" ∧ yX5_nextTo.cls ≠ "java/lang/invoke/VarHandle" ∧ (parseMethodDescriptor yX5_nextTo.desc).map (fun d => d.parameters.length) = some 3 := by decide +kernel
set_option maxRecDepth 100000 in
set_option maxHeartbeats 4000000 in
theorem ct_X5_nextTo {E : Ev} {d : Nat} {z : Sh} {J : MJ} {I : MI} {o0 : Nat} {x1 : Int32} {x2 : Int32} {x3 : Int32} {rr : Int32} (ho0 : oX5 z o0) (h : f_X5_nextTo o0 x1 x2 x3 J I = some rr) : Ct E (d + 1) yX5_nextTo cX5_nextTo 13 (some .int) 0 0 [.ref o0, .int x1, .int x2, .int x3] z J I (some (.int rr)) z J I := by
  unfold f_X5_nextTo at h
  refine Ct.of (own := RX5) (ls := [(0, .ref o0), (1, .int x1), (2, .int x2), (3, .int x3)]) (by decide) rfl (Nat.le_of_ble_eq_true rfl) rfl ?_
  intro X hr0 hnm hX
  refine g_aload_n hX (pc := 0) (i := 0) dX5_nextTo_0 rfl 0 rfl ?_
  refine g_iload_n hX (pc := 1) (i := 1) dX5_nextTo_1 rfl 1 rfl ?_
  obtain ⟨r1, e_r1, h⟩ := bnd h
  refine g_callVi hX (pc := 2) (d := d + 0) hr0 [.int x1] (c := 5) (ct_X5_itemsOf (d := d + 0) ho0 e_r1) ho0.1.1 ho0.1.2 (by decide) rfl co_X5_itemsOf ml_X5_250 im_X5_itemsOf sl_X5_itemsOf ini_X5 nm_X5_itemsOf (by decide) ⟨Nat.le_refl _, Nat.le_refl _⟩ (Nat.le_refl _) (Nat.le_of_ble_eq_true rfl) rfl dX5_nextTo_2 ?_
  refine g_istore hX (pc := 5) (ls' := [(0, .ref o0), (1, .int x1), (2, .int x2), (3, .int x3), (4, .int r1)]) [1, 2, 3, 4, 0] dX5_nextTo_5 (by decide) rfl ?_
  refine g_iconst hX (pc := 7) (v := (-1)) dX5_nextTo_7 (by decide) ?_
  refine g_istore hX (pc := 8) (ls' := [(0, .ref o0), (1, .int x1), (2, .int x2), (3, .int x3), (4, .int r1), (5, .int ((-1)))]) [1, 2, 3, 4, 5, 0] dX5_nextTo_8 (by decide) rfl ?_
  refine g_iconst hX (pc := 10) (v := 0) dX5_nextTo_10 (by decide) ?_
  refine g_istore hX (pc := 11) (ls' := [(0, .ref o0), (1, .int x1), (2, .int x2), (3, .int x3), (4, .int r1), (5, .int ((-1))), (6, .int 0)]) [1, 2, 3, 4, 5, 6, 0] dX5_nextTo_11 (by decide) rfl ?_
  refine g_iconst hX (pc := 13) (v := 0) dX5_nextTo_13 (by decide) ?_
  refine g_istore hX (pc := 14) (ls' := [(0, .ref o0), (1, .int x1), (2, .int x2), (3, .int x3), (4, .int r1), (5, .int ((-1))), (6, .int 0), (7, .int 0)]) [1, 2, 3, 4, 5, 6, 7, 0] dX5_nextTo_14 (by decide) rfl ?_
  refine g_iconst hX (pc := 16) (v := 0) dX5_nextTo_16 (by decide) ?_
  refine g_istore hX (pc := 17) (ls' := [(0, .ref o0), (1, .int x1), (2, .int x2), (3, .int x3), (4, .int r1), (5, .int ((-1))), (6, .int 0), (7, .int 0), (8, .int 0)]) [1, 2, 3, 4, 5, 6, 7, 8, 0] dX5_nextTo_17 (by decide) rfl ?_
  obtain ⟨p29, hpl6, h⟩ := bnd h
  have Kl6 : ∀ ql6 : Int32 × Int32 × Int32 × Int32, ql6 = p29 → GW E X (QX E X 0 0 (some (.int rr)) z J I) 13 178 [(0, .ref o0), (1, .int x1), (2, .int x2), (3, .int x3), (4, .int r1), (5, .int ql6.1), (6, .int ql6.2.1), (7, .int ql6.2.2.1), (8, .int ql6.2.2.2)] [] z J I 0 0 := by
    intro ql6 hql6
    subst hql6
    refine g_iload hX (pc := 178) dX5_nextTo_178 5 rfl ?_
    obtain rfl := Option.some.inj h
    exact g_ireturn hX (Nat.le_refl _) (Nat.le_refl _) dX5_nextTo_180
  obtain ⟨kl6, hkl6⟩ := lp_ex hpl6
  clear hpl6 h
  have Ll6 : ∀ k : Nat, ∀ (s2 : Int32) (s3 : Int32) (s4 : Int32) (s5 : Int32), lpN k (b_X5_nextTo_19 o0 x1 x2 x3 J I r1) ((s2, s3, s4, s5)) = some p29 → GW E X (QX E X 0 0 (some (.int rr)) z J I) 13 19 [(0, .ref o0), (1, .int x1), (2, .int x2), (3, .int x3), (4, .int r1), (5, .int s2), (6, .int s3), (7, .int s4), (8, .int s5)] [] z J I 0 0 := by
    intro k
    induction k with
    | zero => intro s2 s3 s4 s5 h; cases h
    | succ k ihl6 =>
      intro s2 s3 s4 s5 h
      obtain ⟨wl6, h, hwl6⟩ := lpN_s h
      unfold b_X5_nextTo_19 at h
      try dsimp only at h
      refine g_iload hX (pc := 19) dX5_nextTo_19 8 rfl ?_
      refine g_aload_n hX (pc := 21) (i := 0) dX5_nextTo_21 rfl 0 rfl ?_
      refine gf5_14 hX (pc := 22) ho0 fl_X5_17 dX5_nextTo_22 ?_
      refine g_iconst hX (pc := 25) (v := 0) dX5_nextTo_25 (by decide) ?_
      obtain ⟨v7, e_v7, h⟩ := bnd h
      refine g_ialoadE hX (pc := 26) (s5_14 ho0).1 (s5_14 ho0).2.1 (s5_14 ho0).2.2.1 e_v7 dX5_nextTo_26 ?_
      refine g_icmp_ge hX (pc := 27) dX5_nextTo_27 (tgt := 178) (by decide) (fun c8 => ?_) (fun c8 => ?_)
      · replace h := ifP c8 h
        refine g_iload_n hX (pc := 30) (i := 2) dX5_nextTo_30 rfl 2 rfl ?_
        refine g_iload hX (pc := 31) dX5_nextTo_31 8 rfl ?_
        refine g_ishr hX (pc := 33) dX5_nextTo_33 ?_
        refine g_iconst hX (pc := 34) (v := 1) dX5_nextTo_34 (by decide) ?_
        refine g_iand hX (pc := 35) dX5_nextTo_35 ?_
        obtain ⟨p28, hpj10, h⟩ := bnd h
        have Kj10 : ∀ qj10 : Int32 × Int32 × Int32, qj10 = p28 → GW E X (QX E X 0 0 (some (.int rr)) z J I) 13 172 [(0, .ref o0), (1, .int x1), (2, .int x2), (3, .int x3), (4, .int r1), (5, .int qj10.1), (6, .int qj10.2.1), (7, .int qj10.2.2), (8, .int s5)] [] z J I 0 0 := by
          intro qj10 hqj10
          subst hqj10
          refine g_iinc hX (pc := 172) (i := 8) (v := s5 + 1) (ls' := [(0, .ref o0), (1, .int x1), (2, .int x2), (3, .int x3), (4, .int r1), (5, .int qj10.1), (6, .int qj10.2.1), (7, .int qj10.2.2), (8, .int (s5 + 1))]) 8 [1, 2, 3, 4, 5, 6, 7, 8, 0] dX5_nextTo_172 rfl (by rfl) (by decide) rfl ?_
          refine g_goto hX (pc := 175) (tgt := 19) dX5_nextTo_175 (by decide) ?_
          obtain rfl := Option.some.inj h
          exact ihl6 qj10.1 qj10.2.1 qj10.2.2 (s5 + 1) hwl6
        replace h := hpj10
        clear hpj10
        refine g_if_eq hX (pc := 36) dX5_nextTo_36 (tgt := 172) (by decide) (fun c9 => ?_) (fun c9 => ?_)
        · replace h := ifP c9 h
          exact Kj10 ((s2, s3, s4)) (Option.some.inj h)
        · replace h := ifN c9 h
          refine g_iload_n hX (pc := 39) (i := 1) dX5_nextTo_39 rfl 1 rfl ?_
          refine g_iload hX (pc := 40) dX5_nextTo_40 8 rfl ?_
          refine g_ishr hX (pc := 42) dX5_nextTo_42 ?_
          refine g_iconst hX (pc := 43) (v := 1) dX5_nextTo_43 (by decide) ?_
          refine g_iand hX (pc := 44) dX5_nextTo_44 ?_
          refine g_iconst hX (pc := 45) (v := 1) dX5_nextTo_45 (by decide) ?_
          refine g_icmp_eq hX (pc := 46) dX5_nextTo_46 (tgt := 172) (by decide) (fun c11 => ?_) (fun c11 => ?_)
          · replace h := ifP c11 h
            exact Kj10 ((s2, s3, s4)) (Option.some.inj h)
          · replace h := ifN c11 h
            refine g_iload_n hX (pc := 49) (i := 3) dX5_nextTo_49 rfl 3 rfl ?_
            refine g_aload_n hX (pc := 50) (i := 0) dX5_nextTo_50 rfl 0 rfl ?_
            refine g_iload hX (pc := 51) dX5_nextTo_51 8 rfl ?_
            obtain ⟨r12, e_r12, h⟩ := bnd h
            refine g_callVi hX (pc := 53) (d := d + 0) hr0 [.int s5] (c := 5) (ct_X5_needOf (d := d + 0) ho0 e_r12) ho0.1.1 ho0.1.2 (by decide) rfl co_X5_needOf ml_X5_237 im_X5_needOf sl_X5_needOf ini_X5 nm_X5_needOf (by decide) ⟨Nat.le_refl _, Nat.le_refl _⟩ (Nat.le_refl _) (Nat.le_of_ble_eq_true rfl) rfl dX5_nextTo_53 ?_
            refine g_iadd hX (pc := 56) dX5_nextTo_56 ?_
            refine g_aload_n hX (pc := 57) (i := 0) dX5_nextTo_57 rfl 0 rfl ?_
            refine gf5_17 hX (pc := 58) ho0 fl_X5_26 dX5_nextTo_58 ?_
            refine g_iconst hX (pc := 61) (v := 0) dX5_nextTo_61 (by decide) ?_
            obtain ⟨v13, e_v13, h⟩ := bnd h
            refine g_ialoadE hX (pc := 62) (s5_17 ho0).1 (s5_17 ho0).2.1 (s5_17 ho0).2.2.1 e_v13 dX5_nextTo_62 ?_
            refine g_icmp_le hX (pc := 63) dX5_nextTo_63 (tgt := 69) (by decide) (fun c14 => ?_) (fun c14 => ?_)
            · replace h := ifP c14 h
              refine g_goto hX (pc := 66) (tgt := 172) dX5_nextTo_66 (by decide) ?_
              exact Kj10 ((s2, s3, s4)) (Option.some.inj h)
            · replace h := ifN c14 h
              refine g_aload_n hX (pc := 69) (i := 0) dX5_nextTo_69 rfl 0 rfl ?_
              refine g_iconst hX (pc := 70) (v := 1) dX5_nextTo_70 (by decide) ?_
              refine g_iload hX (pc := 71) dX5_nextTo_71 8 rfl ?_
              refine g_ishl hX (pc := 73) dX5_nextTo_73 ?_
              obtain ⟨r15, e_r15, h⟩ := bnd h
              refine g_callVi hX (pc := 74) (d := d + 0) hr0 [.int ((1 : Int32) <<< (s5 &&& 31))] (c := 5) (ct_X5_itemsOf (d := d + 0) ho0 e_r15) ho0.1.1 ho0.1.2 (by decide) rfl co_X5_itemsOf ml_X5_250 im_X5_itemsOf sl_X5_itemsOf ini_X5 nm_X5_itemsOf (by decide) ⟨Nat.le_refl _, Nat.le_refl _⟩ (Nat.le_refl _) (Nat.le_of_ble_eq_true rfl) rfl dX5_nextTo_74 ?_
              refine g_istore hX (pc := 77) (ls' := [(0, .ref o0), (1, .int x1), (2, .int x2), (3, .int x3), (4, .int r1), (5, .int s2), (6, .int s3), (7, .int s4), (8, .int s5), (9, .int r15)]) [1, 2, 3, 4, 5, 6, 7, 8, 9, 0] dX5_nextTo_77 (by decide) rfl ?_
              refine g_iload hX (pc := 79) dX5_nextTo_79 9 rfl ?_
              refine g_iload hX (pc := 81) dX5_nextTo_81 4 rfl ?_
              refine g_iand hX (pc := 83) dX5_nextTo_83 ?_
              obtain ⟨r16, e_r16, h⟩ := bnd h
              refine g_callSi hX (pc := 84) (d := d + 0) hr0 [.int (r15 &&& r1)] (ct_X5_count1 (d := d + 0)  e_r16) co_X5_count1 ml_X5_253 sta_X5_count1 ini_X5 nm_X5_count1 (by decide) ⟨Nat.le_refl _, Nat.le_refl _⟩ (Nat.le_refl _) (Nat.le_of_ble_eq_true rfl) rfl dX5_nextTo_84 ?_
              refine g_istore hX (pc := 87) (ls' := [(0, .ref o0), (1, .int x1), (2, .int x2), (3, .int x3), (4, .int r1), (5, .int s2), (6, .int s3), (7, .int s4), (8, .int s5), (9, .int r15), (10, .int r16)]) [1, 2, 3, 4, 5, 6, 7, 8, 9, 10, 0] dX5_nextTo_87 (by decide) rfl ?_
              refine g_iload hX (pc := 89) dX5_nextTo_89 9 rfl ?_
              refine g_iload hX (pc := 91) dX5_nextTo_91 4 rfl ?_
              refine g_iconst hX (pc := 93) (v := (-1)) dX5_nextTo_93 (by decide) ?_
              refine g_ixor hX (pc := 94) dX5_nextTo_94 ?_
              refine g_iand hX (pc := 95) dX5_nextTo_95 ?_
              obtain ⟨r17, e_r17, h⟩ := bnd h
              refine g_callSi hX (pc := 96) (d := d + 0) hr0 [.int (r15 &&& (r1 ^^^ ((-1))))] (ct_X5_count1 (d := d + 0)  e_r17) co_X5_count1 ml_X5_253 sta_X5_count1 ini_X5 nm_X5_count1 (by decide) ⟨Nat.le_refl _, Nat.le_refl _⟩ (Nat.le_refl _) (Nat.le_of_ble_eq_true rfl) rfl dX5_nextTo_96 ?_
              refine g_istore hX (pc := 99) (ls' := [(0, .ref o0), (1, .int x1), (2, .int x2), (3, .int x3), (4, .int r1), (5, .int s2), (6, .int s3), (7, .int s4), (8, .int s5), (9, .int r15), (10, .int r16), (11, .int r17)]) [1, 2, 3, 4, 5, 6, 7, 8, 9, 10, 11, 0] dX5_nextTo_99 (by decide) rfl ?_
              refine g_iload hX (pc := 101) dX5_nextTo_101 5 rfl ?_
              obtain ⟨p26, hpj19, h⟩ := bnd h
              have Kj19 : ∀ qj19 : Int32, qj19 = p26 → GW E X (QX E X 0 0 (some (.int rr)) z J I) 13 150 [(0, .ref o0), (1, .int x1), (2, .int x2), (3, .int x3), (4, .int r1), (5, .int s2), (6, .int s3), (7, .int s4), (8, .int s5), (9, .int r15), (10, .int r16), (11, .int r17)] [.int qj19] z J I 0 0 := by
                intro qj19 hqj19
                subst hqj19
                refine g_istore hX (pc := 150) (ls' := [(0, .ref o0), (1, .int x1), (2, .int x2), (3, .int x3), (4, .int r1), (5, .int s2), (6, .int s3), (7, .int s4), (8, .int s5), (9, .int r15), (10, .int r16), (11, .int r17), (12, .int qj19)]) [1, 2, 3, 4, 5, 6, 7, 8, 9, 10, 11, 12, 0] dX5_nextTo_150 (by decide) rfl ?_
                refine g_iload hX (pc := 152) dX5_nextTo_152 12 rfl ?_
                refine g_if_ne hX (pc := 154) dX5_nextTo_154 (tgt := 160) (by decide) (fun c27 => ?_) (fun c27 => ?_)
                · replace h := ifP c27 h
                  refine g_goto hX (pc := 157) (tgt := 172) dX5_nextTo_157 (by decide) ?_
                  refine g_sub (ls' := [(0, .ref o0), (1, .int x1), (2, .int x2), (3, .int x3), (4, .int r1), (5, .int s2), (6, .int s3), (7, .int s4), (8, .int s5)]) [0, 1, 2, 3, 4, 5, 6, 7, 8] rfl ?_
                  exact Kj10 ((s2, s3, s4)) (Option.some.inj h)
                · replace h := ifN c27 h
                  refine g_iload hX (pc := 160) dX5_nextTo_160 8 rfl ?_
                  refine g_istore hX (pc := 162) (ls' := [(0, .ref o0), (1, .int x1), (2, .int x2), (3, .int x3), (4, .int r1), (5, .int s5), (6, .int s3), (7, .int s4), (8, .int s5), (9, .int r15), (10, .int r16), (11, .int r17), (12, .int qj19)]) [1, 2, 3, 4, 5, 0, 6, 7, 8, 9, 10, 11, 12] dX5_nextTo_162 (by decide) rfl ?_
                  refine g_iload hX (pc := 164) dX5_nextTo_164 10 rfl ?_
                  refine g_istore hX (pc := 166) (ls' := [(0, .ref o0), (1, .int x1), (2, .int x2), (3, .int x3), (4, .int r1), (5, .int s5), (6, .int r16), (7, .int s4), (8, .int s5), (9, .int r15), (10, .int r16), (11, .int r17), (12, .int qj19)]) [1, 2, 3, 4, 5, 6, 0, 7, 8, 9, 10, 11, 12] dX5_nextTo_166 (by decide) rfl ?_
                  refine g_iload hX (pc := 168) dX5_nextTo_168 11 rfl ?_
                  refine g_istore hX (pc := 170) (ls' := [(0, .ref o0), (1, .int x1), (2, .int x2), (3, .int x3), (4, .int r1), (5, .int s5), (6, .int r16), (7, .int r17), (8, .int s5), (9, .int r15), (10, .int r16), (11, .int r17), (12, .int qj19)]) [1, 2, 3, 4, 5, 6, 7, 0, 8, 9, 10, 11, 12] dX5_nextTo_170 (by decide) rfl ?_
                  refine g_sub (ls' := [(0, .ref o0), (1, .int x1), (2, .int x2), (3, .int x3), (4, .int r1), (5, .int s5), (6, .int r16), (7, .int r17), (8, .int s5)]) [0, 1, 2, 3, 4, 5, 6, 7, 8] rfl ?_
                  exact Kj10 ((s5, r16, r17)) (Option.some.inj h)
              replace h := hpj19
              clear hpj19
              refine g_if_lt hX (pc := 103) dX5_nextTo_103 (tgt := 145) (by decide) (fun c18 => ?_) (fun c18 => ?_)
              · replace h := ifP c18 h
                refine g_iconst hX (pc := 145) (v := 1) dX5_nextTo_145 (by decide) ?_
                refine g_goto hX (pc := 146) (tgt := 150) dX5_nextTo_146 (by decide) ?_
                exact Kj19 1 (Option.some.inj h)
              · replace h := ifN c18 h
                refine g_iload hX (pc := 106) dX5_nextTo_106 10 rfl ?_
                refine g_iload hX (pc := 108) dX5_nextTo_108 6 rfl ?_
                refine g_icmp_gt hX (pc := 110) dX5_nextTo_110 (tgt := 145) (by decide) (fun c20 => ?_) (fun c20 => ?_)
                · replace h := ifP c20 h
                  refine g_iconst hX (pc := 145) (v := 1) dX5_nextTo_145 (by decide) ?_
                  refine g_goto hX (pc := 146) (tgt := 150) dX5_nextTo_146 (by decide) ?_
                  exact Kj19 1 (Option.some.inj h)
                · replace h := ifN c20 h
                  refine g_iload hX (pc := 113) dX5_nextTo_113 10 rfl ?_
                  refine g_iload hX (pc := 115) dX5_nextTo_115 6 rfl ?_
                  refine g_icmp_ne hX (pc := 117) dX5_nextTo_117 (tgt := 149) (by decide) (fun c21 => ?_) (fun c21 => ?_)
                  · replace h := ifP c21 h
                    refine g_iload hX (pc := 120) dX5_nextTo_120 11 rfl ?_
                    refine g_iload hX (pc := 122) dX5_nextTo_122 7 rfl ?_
                    refine g_icmp_lt hX (pc := 124) dX5_nextTo_124 (tgt := 145) (by decide) (fun c22 => ?_) (fun c22 => ?_)
                    · replace h := ifP c22 h
                      refine g_iconst hX (pc := 145) (v := 1) dX5_nextTo_145 (by decide) ?_
                      refine g_goto hX (pc := 146) (tgt := 150) dX5_nextTo_146 (by decide) ?_
                      exact Kj19 1 (Option.some.inj h)
                    · replace h := ifN c22 h
                      refine g_iload hX (pc := 127) dX5_nextTo_127 11 rfl ?_
                      refine g_iload hX (pc := 129) dX5_nextTo_129 7 rfl ?_
                      refine g_icmp_ne hX (pc := 131) dX5_nextTo_131 (tgt := 149) (by decide) (fun c23 => ?_) (fun c23 => ?_)
                      · replace h := ifP c23 h
                        refine g_aload_n hX (pc := 134) (i := 0) dX5_nextTo_134 rfl 0 rfl ?_
                        refine g_iload hX (pc := 135) dX5_nextTo_135 8 rfl ?_
                        refine g_iload hX (pc := 137) dX5_nextTo_137 5 rfl ?_
                        obtain ⟨r24, e_r24, h⟩ := bnd h
                        refine g_callVi hX (pc := 139) (d := d + 0) hr0 [.int s5, .int s2] (c := 5) (ct_X5_isEarlier (d := d + 0) ho0 e_r24) ho0.1.1 ho0.1.2 (by decide) rfl co_X5_isEarlier ml_X5_247 im_X5_isEarlier sl_X5_isEarlier ini_X5 nm_X5_isEarlier (by decide) ⟨Nat.le_refl _, Nat.le_refl _⟩ (Nat.le_refl _) (Nat.le_of_ble_eq_true rfl) rfl dX5_nextTo_139 ?_
                        refine g_if_eq hX (pc := 142) dX5_nextTo_142 (tgt := 149) (by decide) (fun c25 => ?_) (fun c25 => ?_)
                        · replace h := ifP c25 h
                          refine g_iconst hX (pc := 149) (v := 0) dX5_nextTo_149 (by decide) ?_
                          exact Kj19 0 (Option.some.inj h)
                        · replace h := ifN c25 h
                          refine g_iconst hX (pc := 145) (v := 1) dX5_nextTo_145 (by decide) ?_
                          refine g_goto hX (pc := 146) (tgt := 150) dX5_nextTo_146 (by decide) ?_
                          exact Kj19 1 (Option.some.inj h)
                      · replace h := ifN c23 h
                        refine g_iconst hX (pc := 149) (v := 0) dX5_nextTo_149 (by decide) ?_
                        exact Kj19 0 (Option.some.inj h)
                  · replace h := ifN c21 h
                    refine g_iconst hX (pc := 149) (v := 0) dX5_nextTo_149 (by decide) ?_
                    exact Kj19 0 (Option.some.inj h)
      · replace h := ifN c8 h
        obtain rfl := Option.some.inj h
        exact Kl6 ((s2, s3, s4, s5)) hwl6
  exact Ll6 kl6 ((-1)) 0 0 0 hkl6
noncomputable def b_X5_waveOf_18 (o0 : Nat) (x1 : Int32) (x2 : Int32) (J : MJ) (I : MI) (s : Int32 × Int32 × Int32) : Option ((Int32 × Int32 × Int32) ⊕ (Int32 × Int32 × Int32)) :=
  if s.1 < 0 then
    some (.inr ((s.1, s.2.1, s.2.2)))
  else
    (f_X5_needOf o0 s.1 J I).bind fun r8 =>
    (f_X5_count1 (s.2.1 ||| ((1 : Int32) <<< (s.1 &&& 31)))).bind fun r9 =>
    (if r9 < x2 then
      (f_X5_nextTo o0 (s.2.1 ||| ((1 : Int32) <<< (s.1 &&& 31))) x1 (s.2.2 + r8) J I).bind fun r12 =>
      some r12
    else
      some ((-1))).bind fun (p13 : Int32) =>
    some (.inl ((p13, s.2.1 ||| ((1 : Int32) <<< (s.1 &&& 31)), s.2.2 + r8)))
noncomputable def f_X5_waveOf (o0 : Nat) (x1 : Int32) (x2 : Int32) (J : MJ) (I : MI) : Option (Int32) :=
  if x1 = 0 then
    some 0
  else
    (f_X5_firstOf o0 x1 J I).bind fun r2 =>
    (lp (b_X5_waveOf_18 o0 x1 x2 J I) ((r2, 0, 0))).bind fun p14 =>
    some p14.2.1
theorem nm_X5_waveOf : yX5_waveOf.cls ≠ "java/lang/invoke/MethodHandle" ∧ yX5_waveOf.cls ≠ "java/lang/invoke/VarHandle" ∧ (parseMethodDescriptor yX5_waveOf.desc).map (fun d => d.parameters.length) = some 2 := by decide +kernel
set_option maxRecDepth 100000 in
set_option maxHeartbeats 4000000 in
theorem ct_X5_waveOf {E : Ev} {d : Nat} {z : Sh} {J : MJ} {I : MI} {o0 : Nat} {x1 : Int32} {x2 : Int32} {rr : Int32} (ho0 : oX5 z o0) (h : f_X5_waveOf o0 x1 x2 J I = some rr) : Ct E (d + 2) yX5_waveOf cX5_waveOf 6 (some .int) 0 0 [.ref o0, .int x1, .int x2] z J I (some (.int rr)) z J I := by
  unfold f_X5_waveOf at h
  refine Ct.of (own := RX5) (ls := [(0, .ref o0), (1, .int x1), (2, .int x2)]) (by decide) rfl (Nat.le_of_ble_eq_true rfl) rfl ?_
  intro X hr0 hnm hX
  refine g_iload_n hX (pc := 0) (i := 1) dX5_waveOf_0 rfl 1 rfl ?_
  refine g_if_ne hX (pc := 1) dX5_waveOf_1 (tgt := 6) (by decide) (fun c1 => ?_) (fun c1 => ?_)
  · replace h := ifP c1 h
    refine g_iconst hX (pc := 4) (v := 0) dX5_waveOf_4 (by decide) ?_
    obtain rfl := Option.some.inj h
    exact g_ireturn hX (Nat.le_refl _) (Nat.le_refl _) dX5_waveOf_5
  · replace h := ifN c1 h
    refine g_aload_n hX (pc := 6) (i := 0) dX5_waveOf_6 rfl 0 rfl ?_
    refine g_iload_n hX (pc := 7) (i := 1) dX5_waveOf_7 rfl 1 rfl ?_
    obtain ⟨r2, e_r2, h⟩ := bnd h
    refine g_callVi hX (pc := 8) (d := d + 1) hr0 [.int x1] (c := 5) (ct_X5_firstOf (d := d + 0) ho0 e_r2) ho0.1.1 ho0.1.2 (by decide) rfl co_X5_firstOf ml_X5_256 im_X5_firstOf sl_X5_firstOf ini_X5 nm_X5_firstOf (by decide) ⟨Nat.le_refl _, Nat.le_refl _⟩ (Nat.le_refl _) (Nat.le_of_ble_eq_true rfl) rfl dX5_waveOf_8 ?_
    refine g_istore_n hX (pc := 11) (i := 3) (ls' := [(0, .ref o0), (1, .int x1), (2, .int x2), (3, .int r2)]) [1, 2, 3, 0] dX5_waveOf_11 rfl (by decide) rfl ?_
    refine g_iconst hX (pc := 12) (v := 0) dX5_waveOf_12 (by decide) ?_
    refine g_istore hX (pc := 13) (ls' := [(0, .ref o0), (1, .int x1), (2, .int x2), (3, .int r2), (4, .int 0)]) [1, 2, 3, 4, 0] dX5_waveOf_13 (by decide) rfl ?_
    refine g_iconst hX (pc := 15) (v := 0) dX5_waveOf_15 (by decide) ?_
    refine g_istore hX (pc := 16) (ls' := [(0, .ref o0), (1, .int x1), (2, .int x2), (3, .int r2), (4, .int 0), (5, .int 0)]) [1, 2, 3, 4, 5, 0] dX5_waveOf_16 (by decide) rfl ?_
    obtain ⟨p14, hpl6, h⟩ := bnd h
    have Kl6 : ∀ ql6 : Int32 × Int32 × Int32, ql6 = p14 → GW E X (QX E X 0 0 (some (.int rr)) z J I) 6 66 [(0, .ref o0), (1, .int x1), (2, .int x2), (3, .int ql6.1), (4, .int ql6.2.1), (5, .int ql6.2.2)] [] z J I 0 0 := by
      intro ql6 hql6
      subst hql6
      refine g_iload hX (pc := 66) dX5_waveOf_66 4 rfl ?_
      obtain rfl := Option.some.inj h
      exact g_ireturn hX (Nat.le_refl _) (Nat.le_refl _) dX5_waveOf_68
    obtain ⟨kl6, hkl6⟩ := lp_ex hpl6
    clear hpl6 h
    have Ll6 : ∀ k : Nat, ∀ (s3 : Int32) (s4 : Int32) (s5 : Int32), lpN k (b_X5_waveOf_18 o0 x1 x2 J I) ((s3, s4, s5)) = some p14 → GW E X (QX E X 0 0 (some (.int rr)) z J I) 6 18 [(0, .ref o0), (1, .int x1), (2, .int x2), (3, .int s3), (4, .int s4), (5, .int s5)] [] z J I 0 0 := by
      intro k
      induction k with
      | zero => intro s3 s4 s5 h; cases h
      | succ k ihl6 =>
        intro s3 s4 s5 h
        obtain ⟨wl6, h, hwl6⟩ := lpN_s h
        unfold b_X5_waveOf_18 at h
        try dsimp only at h
        refine g_iload_n hX (pc := 18) (i := 3) dX5_waveOf_18 rfl 3 rfl ?_
        refine g_if_lt hX (pc := 19) dX5_waveOf_19 (tgt := 66) (by decide) (fun c7 => ?_) (fun c7 => ?_)
        · replace h := ifP c7 h
          obtain rfl := Option.some.inj h
          exact Kl6 ((s3, s4, s5)) hwl6
        · replace h := ifN c7 h
          refine g_iload hX (pc := 22) dX5_waveOf_22 4 rfl ?_
          refine g_iconst hX (pc := 24) (v := 1) dX5_waveOf_24 (by decide) ?_
          refine g_iload_n hX (pc := 25) (i := 3) dX5_waveOf_25 rfl 3 rfl ?_
          refine g_ishl hX (pc := 26) dX5_waveOf_26 ?_
          refine g_ior hX (pc := 27) dX5_waveOf_27 ?_
          refine g_istore hX (pc := 28) (ls' := [(0, .ref o0), (1, .int x1), (2, .int x2), (3, .int s3), (4, .int (s4 ||| ((1 : Int32) <<< (s3 &&& 31)))), (5, .int s5)]) [1, 2, 3, 4, 0, 5] dX5_waveOf_28 (by decide) rfl ?_
          refine g_iload hX (pc := 30) dX5_waveOf_30 5 rfl ?_
          refine g_aload_n hX (pc := 32) (i := 0) dX5_waveOf_32 rfl 0 rfl ?_
          refine g_iload_n hX (pc := 33) (i := 3) dX5_waveOf_33 rfl 3 rfl ?_
          obtain ⟨r8, e_r8, h⟩ := bnd h
          refine g_callVi hX (pc := 34) (d := d + 1) hr0 [.int s3] (c := 5) (ct_X5_needOf (d := d + 1) ho0 e_r8) ho0.1.1 ho0.1.2 (by decide) rfl co_X5_needOf ml_X5_237 im_X5_needOf sl_X5_needOf ini_X5 nm_X5_needOf (by decide) ⟨Nat.le_refl _, Nat.le_refl _⟩ (Nat.le_refl _) (Nat.le_of_ble_eq_true rfl) rfl dX5_waveOf_34 ?_
          refine g_iadd hX (pc := 37) dX5_waveOf_37 ?_
          refine g_istore hX (pc := 38) (ls' := [(0, .ref o0), (1, .int x1), (2, .int x2), (3, .int s3), (4, .int (s4 ||| ((1 : Int32) <<< (s3 &&& 31)))), (5, .int (s5 + r8))]) [1, 2, 3, 4, 5, 0] dX5_waveOf_38 (by decide) rfl ?_
          refine g_iload hX (pc := 40) dX5_waveOf_40 4 rfl ?_
          obtain ⟨r9, e_r9, h⟩ := bnd h
          refine g_callSi hX (pc := 42) (d := d + 1) hr0 [.int (s4 ||| ((1 : Int32) <<< (s3 &&& 31)))] (ct_X5_count1 (d := d + 1)  e_r9) co_X5_count1 ml_X5_253 sta_X5_count1 ini_X5 nm_X5_count1 (by decide) ⟨Nat.le_refl _, Nat.le_refl _⟩ (Nat.le_refl _) (Nat.le_of_ble_eq_true rfl) rfl dX5_waveOf_42 ?_
          refine g_iload_n hX (pc := 45) (i := 2) dX5_waveOf_45 rfl 2 rfl ?_
          obtain ⟨p13, hpj11, h⟩ := bnd h
          have Kj11 : ∀ qj11 : Int32, qj11 = p13 → GW E X (QX E X 0 0 (some (.int rr)) z J I) 6 62 [(0, .ref o0), (1, .int x1), (2, .int x2), (3, .int s3), (4, .int (s4 ||| ((1 : Int32) <<< (s3 &&& 31)))), (5, .int (s5 + r8))] [.int qj11] z J I 0 0 := by
            intro qj11 hqj11
            subst hqj11
            refine g_istore_n hX (pc := 62) (i := 3) (ls' := [(0, .ref o0), (1, .int x1), (2, .int x2), (3, .int qj11), (4, .int (s4 ||| ((1 : Int32) <<< (s3 &&& 31)))), (5, .int (s5 + r8))]) [1, 2, 3, 0, 4, 5] dX5_waveOf_62 rfl (by decide) rfl ?_
            refine g_goto hX (pc := 63) (tgt := 18) dX5_waveOf_63 (by decide) ?_
            obtain rfl := Option.some.inj h
            exact ihl6 qj11 (s4 ||| ((1 : Int32) <<< (s3 &&& 31))) (s5 + r8) hwl6
          replace h := hpj11
          clear hpj11
          refine g_icmp_ge hX (pc := 46) dX5_waveOf_46 (tgt := 61) (by decide) (fun c10 => ?_) (fun c10 => ?_)
          · replace h := ifP c10 h
            refine g_aload_n hX (pc := 49) (i := 0) dX5_waveOf_49 rfl 0 rfl ?_
            refine g_iload hX (pc := 50) dX5_waveOf_50 4 rfl ?_
            refine g_iload_n hX (pc := 52) (i := 1) dX5_waveOf_52 rfl 1 rfl ?_
            refine g_iload hX (pc := 53) dX5_waveOf_53 5 rfl ?_
            obtain ⟨r12, e_r12, h⟩ := bnd h
            refine g_callVi hX (pc := 55) (d := d + 1) hr0 [.int (s4 ||| ((1 : Int32) <<< (s3 &&& 31))), .int x1, .int (s5 + r8)] (c := 5) (ct_X5_nextTo (d := d + 0) ho0 e_r12) ho0.1.1 ho0.1.2 (by decide) rfl co_X5_nextTo ml_X5_259 im_X5_nextTo sl_X5_nextTo ini_X5 nm_X5_nextTo (by decide) ⟨Nat.le_refl _, Nat.le_refl _⟩ (Nat.le_refl _) (Nat.le_of_ble_eq_true rfl) rfl dX5_waveOf_55 ?_
            refine g_goto hX (pc := 58) (tgt := 62) dX5_waveOf_58 (by decide) ?_
            exact Kj11 r12 (Option.some.inj h)
          · replace h := ifN c10 h
            refine g_iconst hX (pc := 61) (v := (-1)) dX5_waveOf_61 (by decide) ?_
            exact Kj11 ((-1)) (Option.some.inj h)
    exact Ll6 kl6 r2 0 0 hkl6
noncomputable def f_X5_nextWave (o0 : Nat) (J : MJ) (I : MI) : Option (Int32) :=
  (f_X5_waiting o0 J I).bind fun r1 =>
  (rd 2 (I (o0 + 5)) 0).bind fun v2 =>
  (f_X5_waveOf o0 r1 v2 J I).bind fun r3 =>
  some r3
theorem nm_X5_nextWave : yX5_nextWave.cls ≠ "java/lang/invoke/MethodHandle" ∧ yX5_nextWave.cls ≠ "java/lang/invoke/VarHandle" ∧ (parseMethodDescriptor yX5_nextWave.desc).map (fun d => d.parameters.length) = some 0 := by decide +kernel
set_option maxRecDepth 100000 in
set_option maxHeartbeats 4000000 in
theorem ct_X5_nextWave {E : Ev} {d : Nat} {z : Sh} {J : MJ} {I : MI} {o0 : Nat} {rr : Int32} (ho0 : oX5 z o0) (h : f_X5_nextWave o0 J I = some rr) : Ct E (d + 3) yX5_nextWave cX5_nextWave 1 (some .int) 0 0 [.ref o0] z J I (some (.int rr)) z J I := by
  unfold f_X5_nextWave at h
  refine Ct.of (own := RX5) (ls := [(0, .ref o0)]) (by decide) rfl (Nat.le_of_ble_eq_true rfl) rfl ?_
  intro X hr0 hnm hX
  refine g_aload_n hX (pc := 0) (i := 0) dX5_nextWave_0 rfl 0 rfl ?_
  refine g_aload_n hX (pc := 1) (i := 0) dX5_nextWave_1 rfl 0 rfl ?_
  obtain ⟨r1, e_r1, h⟩ := bnd h
  refine g_callVi hX (pc := 2) (d := d + 2) hr0 [] (c := 5) (ct_X5_waiting (d := d + 2) ho0 e_r1) ho0.1.1 ho0.1.2 (by decide) rfl co_X5_waiting ml_X5_263 im_X5_waiting sl_X5_waiting ini_X5 nm_X5_waiting (by decide) ⟨Nat.le_refl _, Nat.le_refl _⟩ (Nat.le_refl _) (Nat.le_of_ble_eq_true rfl) rfl dX5_nextWave_2 ?_
  refine g_aload_n hX (pc := 5) (i := 0) dX5_nextWave_5 rfl 0 rfl ?_
  refine gf5_16 hX (pc := 6) ho0 fl_X5_23 dX5_nextWave_6 ?_
  refine g_iconst hX (pc := 9) (v := 0) dX5_nextWave_9 (by decide) ?_
  obtain ⟨v2, e_v2, h⟩ := bnd h
  refine g_ialoadE hX (pc := 10) (s5_16 ho0).1 (s5_16 ho0).2.1 (s5_16 ho0).2.2.1 e_v2 dX5_nextWave_10 ?_
  obtain ⟨r3, e_r3, h⟩ := bnd h
  refine g_callVi hX (pc := 11) (d := d + 2) hr0 [.int r1, .int v2] (c := 5) (ct_X5_waveOf (d := d + 0) ho0 e_r3) ho0.1.1 ho0.1.2 (by decide) rfl co_X5_waveOf ml_X5_266 im_X5_waveOf sl_X5_waveOf ini_X5 nm_X5_waveOf (by decide) ⟨Nat.le_refl _, Nat.le_refl _⟩ (Nat.le_refl _) (Nat.le_of_ble_eq_true rfl) rfl dX5_nextWave_11 ?_
  obtain rfl := Option.some.inj h
  exact g_ireturn hX (Nat.le_refl _) (Nat.le_refl _) dX5_nextWave_14
noncomputable def f_X5_wave (o0 : Nat) (J : MJ) (I : MI) : Option (Int32 × MI) :=
  (wf I o0 0 0).bind fun I1 =>
  (f_X5_nextWave o0 J I1).bind fun r2 =>
  some ((r2, I1))
theorem nm_X5_wave : yX5_wave.cls ≠ "java/lang/invoke/MethodHandle" ∧ yX5_wave.cls ≠ "java/lang/invoke/VarHandle" ∧ (parseMethodDescriptor yX5_wave.desc).map (fun d => d.parameters.length) = some 0 := by decide +kernel
set_option maxRecDepth 100000 in
set_option maxHeartbeats 4000000 in
theorem ct_X5_wave {E : Ev} {d : Nat} {z : Sh} {J : MJ} {I : MI} {o0 : Nat} {rr : Int32} {Iz : MI} (ho0 : oX5 z o0) (h : f_X5_wave o0 J I = some ((rr, Iz))) : Ct E (d + 4) yX5_wave cX5_wave 1 (some .int) 0 0 [.ref o0] z J I (some (.int rr)) z J Iz := by
  unfold f_X5_wave at h
  refine Ct.of (own := RX5) (ls := [(0, .ref o0)]) (by decide) rfl (Nat.le_of_ble_eq_true rfl) rfl ?_
  intro X hr0 hnm hX
  refine g_aload_n hX (pc := 0) (i := 0) dX5_wave_0 rfl 0 rfl ?_
  refine g_iconst hX (pc := 1) (v := 0) dX5_wave_1 (by decide) ?_
  obtain ⟨I1, e_I1, h⟩ := bnd h
  refine pf5_0 hX (pc := 2) ho0 fl_X5_86 dX5_wave_2 e_I1 ?_
  refine g_aload_n hX (pc := 5) (i := 0) dX5_wave_5 rfl 0 rfl ?_
  obtain ⟨r2, e_r2, h⟩ := bnd h
  refine g_callVi hX (pc := 6) (d := d + 3) hr0 [] (c := 5) (ct_X5_nextWave (d := d + 0) ho0 e_r2) ho0.1.1 ho0.1.2 (by decide) rfl co_X5_nextWave ml_X5_269 im_X5_nextWave sl_X5_nextWave ini_X5 nm_X5_nextWave (by decide) ⟨Nat.le_refl _, Nat.le_refl _⟩ (Nat.le_refl _) (Nat.le_of_ble_eq_true rfl) rfl dX5_wave_6 ?_
  replace h := Option.some.inj h
  obtain ⟨rfl, rfl⟩ := Prod.mk.inj h
  exact g_ireturn hX (Nat.le_refl _) (Nat.le_refl _) dX5_wave_9
noncomputable def b_X5_laysPicks_44 (o0 : Nat) (x1 : Int32) (s6 : Int32) (I7 : MI) (s : Int32 × Int32) : Option ((Int32 × Int32) ⊕ (Int32 × Int32)) :=
  (rd 2 (I7 (o0 + 3)) 0).bind fun v17 =>
  if s.2 < v17 then
    (if ((x1 >>> (s.2 &&& 31)) &&& 1) = 1 then
      (rd 320 (I7 (o0 + 12)) ((10 * s.2) + s6)).bind fun v21 =>
      some v21
    else
      some 0).bind fun (p22 : Int32) =>
    some (.inl ((s.1 + p22, s.2 + 1)))
  else
    some (.inr ((s.1, s.2)))
noncomputable def b_X5_laysPicks_15 (o0 : Nat) (x1 : Int32) (s2 : Int32) (s : Int32 × MI) : Option ((Int32 × MI) ⊕ (Int32 × MI)) :=
  (rd 2 (s.2 (o0 + 2)) 0).bind fun v9 =>
  if s.1 < v9 then
    (rd 20 (s.2 (o0 + 8)) s.1).bind fun v11 =>
    (if v11 = s2 then
      (lp (b_X5_laysPicks_44 o0 x1 s.1 s.2) ((0, 0))).bind fun p23 =>
      (rd 2117 (s.2 (o0 + 13)) s.1).bind fun v24 =>
      (if p23.1 < v24 then
        some p23.1
      else
        (rd 2117 (s.2 (o0 + 13)) s.1).bind fun v27 =>
        some v27).bind fun (p28 : Int32) =>
      if p28 = 0 then
        some s.2
      else
        (wr 10 s.2 (o0 + 18) (s.2 o0 35) s.1).bind fun I30 =>
        (wr 10 I30 (o0 + 19) (I30 o0 35) p28).bind fun I31 =>
        (wf I31 o0 35 ((I31 o0 35) + 1)).bind fun I32 =>
        some I32
    else
      some s.2).bind fun (p33 : MI) =>
    some (.inl ((s.1 + 1, p33)))
  else
    some (.inr ((s.1, s.2)))
noncomputable def b_X5_laysPicks_7 (o0 : Nat) (x1 : Int32) (s : Int32 × MI) : Option ((Int32 × MI) ⊕ (Int32 × MI)) :=
  if 99 < s.1 then
    some (.inr ((s.1, s.2)))
  else
    (lp (b_X5_laysPicks_15 o0 x1 s.1) ((0, s.2))).bind fun p34 =>
    some (.inl ((s.1 + 1, p34.2)))
noncomputable def f_X5_laysPicks (o0 : Nat) (x1 : Int32) (J : MJ) (I : MI) : Option (MI) :=
  (wf I o0 35 0).bind fun I1 =>
  (lp (b_X5_laysPicks_7 o0 x1) ((0, I1))).bind fun p35 =>
  some p35.2
theorem nm_X5_laysPicks : yX5_laysPicks.cls ≠ "java/lang/invoke/MethodHandle" ∧ yX5_laysPicks.cls ≠ "java/lang/invoke/VarHandle" ∧ (parseMethodDescriptor yX5_laysPicks.desc).map (fun d => d.parameters.length) = some 1 := by decide +kernel
set_option maxRecDepth 100000 in
set_option maxHeartbeats 4000000 in
theorem ct_X5_laysPicks {E : Ev} {d : Nat} {z : Sh} {J : MJ} {I : MI} {o0 : Nat} {x1 : Int32} {Iz : MI} (ho0 : oX5 z o0) (h : f_X5_laysPicks o0 x1 J I = some Iz) : Ct E (d + 0) yX5_laysPicks cX5_laysPicks 6 none 0 0 [.ref o0, .int x1] z J I none z J Iz := by
  unfold f_X5_laysPicks at h
  refine Ct.of (own := RX5) (ls := [(0, .ref o0), (1, .int x1)]) (by decide) rfl (Nat.le_of_ble_eq_true rfl) rfl ?_
  intro X hr0 hnm hX
  refine g_aload_n hX (pc := 0) (i := 0) dX5_laysPicks_0 rfl 0 rfl ?_
  refine g_iconst hX (pc := 1) (v := 0) dX5_laysPicks_1 (by decide) ?_
  obtain ⟨I1, e_I1, h⟩ := bnd h
  refine pf5_35 hX (pc := 2) ho0 fl_X5_272 dX5_laysPicks_2 e_I1 ?_
  refine g_iconst hX (pc := 5) (v := 0) dX5_laysPicks_5 (by decide) ?_
  refine g_istore_n hX (pc := 6) (i := 2) (ls' := [(0, .ref o0), (1, .int x1), (2, .int 0)]) [1, 2, 0] dX5_laysPicks_6 rfl (by decide) rfl ?_
  obtain ⟨p35, hpl4, h⟩ := bnd h
  have Kl4 : ∀ ql4 : Int32 × MI, ql4 = p35 → GW E X (QX E X 0 0 none z J Iz) 6 167 [(0, .ref o0), (1, .int x1), (2, .int ql4.1)] [] z J ql4.2 0 0 := by
    intro ql4 hql4
    subst hql4
    obtain rfl := Option.some.inj h
    exact g_return hX (Nat.le_refl _) (Nat.le_refl _) dX5_laysPicks_167
  obtain ⟨kl4, hkl4⟩ := lp_ex hpl4
  clear hpl4 h
  have Ll4 : ∀ k : Nat, ∀ (s2 : Int32) (I3 : MI), lpN k (b_X5_laysPicks_7 o0 x1) ((s2, I3)) = some p35 → GW E X (QX E X 0 0 none z J Iz) 6 7 [(0, .ref o0), (1, .int x1), (2, .int s2)] [] z J I3 0 0 := by
    intro k
    induction k with
    | zero => intro s2 I3 h; cases h
    | succ k ihl4 =>
      intro s2 I3 h
      obtain ⟨wl4, h, hwl4⟩ := lpN_s h
      unfold b_X5_laysPicks_7 at h
      try dsimp only at h
      refine g_iload_n hX (pc := 7) (i := 2) dX5_laysPicks_7 rfl 2 rfl ?_
      refine g_bipush hX (pc := 8) (v := 99) dX5_laysPicks_8 (by decide) ?_
      refine g_icmp_gt hX (pc := 10) dX5_laysPicks_10 (tgt := 167) (by decide) (fun c5 => ?_) (fun c5 => ?_)
      · replace h := ifP c5 h
        obtain rfl := Option.some.inj h
        exact Kl4 ((s2, I3)) hwl4
      · replace h := ifN c5 h
        refine g_iconst hX (pc := 13) (v := 0) dX5_laysPicks_13 (by decide) ?_
        refine g_istore_n hX (pc := 14) (i := 3) (ls' := [(0, .ref o0), (1, .int x1), (2, .int s2), (3, .int 0)]) [1, 2, 3, 0] dX5_laysPicks_14 rfl (by decide) rfl ?_
        obtain ⟨p34, hpl8, h⟩ := bnd h
        have Kl8 : ∀ ql8 : Int32 × MI, ql8 = p34 → GW E X (QX E X 0 0 none z J Iz) 6 161 [(0, .ref o0), (1, .int x1), (2, .int s2), (3, .int ql8.1)] [] z J ql8.2 0 0 := by
          intro ql8 hql8
          subst hql8
          refine g_iinc hX (pc := 161) (i := 2) (v := s2 + 1) (ls' := [(0, .ref o0), (1, .int x1), (2, .int (s2 + 1)), (3, .int ql8.1)]) 2 [1, 2, 0, 3] dX5_laysPicks_161 rfl (by rfl) (by decide) rfl ?_
          refine g_goto hX (pc := 164) (tgt := 7) dX5_laysPicks_164 (by decide) ?_
          refine g_sub (ls' := [(0, .ref o0), (1, .int x1), (2, .int (s2 + 1))]) [0, 1, 2] rfl ?_
          obtain rfl := Option.some.inj h
          exact ihl4 (s2 + 1) ql8.2 hwl4
        obtain ⟨kl8, hkl8⟩ := lp_ex hpl8
        clear hpl8 h
        have Ll8 : ∀ k : Nat, ∀ (s6 : Int32) (I7 : MI), lpN k (b_X5_laysPicks_15 o0 x1 s2) ((s6, I7)) = some p34 → GW E X (QX E X 0 0 none z J Iz) 6 15 [(0, .ref o0), (1, .int x1), (2, .int s2), (3, .int s6)] [] z J I7 0 0 := by
          intro k
          induction k with
          | zero => intro s6 I7 h; cases h
          | succ k ihl8 =>
            intro s6 I7 h
            obtain ⟨wl8, h, hwl8⟩ := lpN_s h
            unfold b_X5_laysPicks_15 at h
            try dsimp only at h
            refine g_iload_n hX (pc := 15) (i := 3) dX5_laysPicks_15 rfl 3 rfl ?_
            refine g_aload_n hX (pc := 16) (i := 0) dX5_laysPicks_16 rfl 0 rfl ?_
            refine gf5_13 hX (pc := 17) ho0 fl_X5_13 dX5_laysPicks_17 ?_
            refine g_iconst hX (pc := 20) (v := 0) dX5_laysPicks_20 (by decide) ?_
            obtain ⟨v9, e_v9, h⟩ := bnd h
            refine g_ialoadE hX (pc := 21) (s5_13 ho0).1 (s5_13 ho0).2.1 (s5_13 ho0).2.2.1 e_v9 dX5_laysPicks_21 ?_
            refine g_icmp_ge hX (pc := 22) dX5_laysPicks_22 (tgt := 161) (by decide) (fun c10 => ?_) (fun c10 => ?_)
            · replace h := ifP c10 h
              refine g_aload_n hX (pc := 25) (i := 0) dX5_laysPicks_25 rfl 0 rfl ?_
              refine gf5_19 hX (pc := 26) ho0 fl_X5_33 dX5_laysPicks_26 ?_
              refine g_iload_n hX (pc := 29) (i := 3) dX5_laysPicks_29 rfl 3 rfl ?_
              obtain ⟨v11, e_v11, h⟩ := bnd h
              refine g_ialoadE hX (pc := 30) (s5_19 ho0).1 (s5_19 ho0).2.1 (s5_19 ho0).2.2.1 e_v11 dX5_laysPicks_30 ?_
              refine g_iload_n hX (pc := 31) (i := 2) dX5_laysPicks_31 rfl 2 rfl ?_
              obtain ⟨p33, hpj13, h⟩ := bnd h
              have Kj13 : ∀ qj13 : MI, qj13 = p33 → GW E X (QX E X 0 0 none z J Iz) 6 155 [(0, .ref o0), (1, .int x1), (2, .int s2), (3, .int s6)] [] z J qj13 0 0 := by
                intro qj13 hqj13
                subst hqj13
                refine g_iinc hX (pc := 155) (i := 3) (v := s6 + 1) (ls' := [(0, .ref o0), (1, .int x1), (2, .int s2), (3, .int (s6 + 1))]) 3 [1, 2, 3, 0] dX5_laysPicks_155 rfl (by rfl) (by decide) rfl ?_
                refine g_goto hX (pc := 158) (tgt := 15) dX5_laysPicks_158 (by decide) ?_
                obtain rfl := Option.some.inj h
                exact ihl8 (s6 + 1) qj13 hwl8
              replace h := hpj13
              clear hpj13
              refine g_icmp_eq hX (pc := 32) dX5_laysPicks_32 (tgt := 38) (by decide) (fun c12 => ?_) (fun c12 => ?_)
              · replace h := ifP c12 h
                refine g_iconst hX (pc := 38) (v := 0) dX5_laysPicks_38 (by decide) ?_
                refine g_istore hX (pc := 39) (ls' := [(0, .ref o0), (1, .int x1), (2, .int s2), (3, .int s6), (4, .int 0)]) [1, 2, 3, 4, 0] dX5_laysPicks_39 (by decide) rfl ?_
                refine g_iconst hX (pc := 41) (v := 0) dX5_laysPicks_41 (by decide) ?_
                refine g_istore hX (pc := 42) (ls' := [(0, .ref o0), (1, .int x1), (2, .int s2), (3, .int s6), (4, .int 0), (5, .int 0)]) [1, 2, 3, 4, 5, 0] dX5_laysPicks_42 (by decide) rfl ?_
                obtain ⟨p23, hpl16, h⟩ := bnd h
                have Kl16 : ∀ ql16 : Int32 × Int32, ql16 = p23 → GW E X (QX E X 0 0 none z J Iz) 6 92 [(0, .ref o0), (1, .int x1), (2, .int s2), (3, .int s6), (4, .int ql16.1), (5, .int ql16.2)] [] z J I7 0 0 := by
                  intro ql16 hql16
                  subst hql16
                  refine g_iload hX (pc := 92) dX5_laysPicks_92 4 rfl ?_
                  refine g_aload_n hX (pc := 94) (i := 0) dX5_laysPicks_94 rfl 0 rfl ?_
                  refine gf5_27 hX (pc := 95) ho0 fl_X5_48 dX5_laysPicks_95 ?_
                  refine g_iload_n hX (pc := 98) (i := 3) dX5_laysPicks_98 rfl 3 rfl ?_
                  obtain ⟨v24, e_v24, h⟩ := bnd h
                  refine g_ialoadE hX (pc := 99) (s5_27 ho0).1 (s5_27 ho0).2.1 (s5_27 ho0).2.2.1 e_v24 dX5_laysPicks_99 ?_
                  obtain ⟨p28, hpj26, h⟩ := bnd h
                  have Kj26 : ∀ qj26 : Int32, qj26 = p28 → GW E X (QX E X 0 0 none z J Iz) 6 114 [(0, .ref o0), (1, .int x1), (2, .int s2), (3, .int s6), (4, .int ql16.1), (5, .int ql16.2)] [.int qj26] z J I7 0 0 := by
                    intro qj26 hqj26
                    subst hqj26
                    refine g_istore hX (pc := 114) (ls' := [(0, .ref o0), (1, .int x1), (2, .int s2), (3, .int s6), (4, .int qj26), (5, .int ql16.2)]) [1, 2, 3, 4, 0, 5] dX5_laysPicks_114 (by decide) rfl ?_
                    refine g_iload hX (pc := 116) dX5_laysPicks_116 4 rfl ?_
                    refine g_if_ne hX (pc := 118) dX5_laysPicks_118 (tgt := 124) (by decide) (fun c29 => ?_) (fun c29 => ?_)
                    · replace h := ifP c29 h
                      refine g_goto hX (pc := 121) (tgt := 155) dX5_laysPicks_121 (by decide) ?_
                      refine g_sub (ls' := [(0, .ref o0), (1, .int x1), (2, .int s2), (3, .int s6)]) [0, 1, 2, 3] rfl ?_
                      exact Kj13 I7 (Option.some.inj h)
                    · replace h := ifN c29 h
                      refine g_aload_n hX (pc := 124) (i := 0) dX5_laysPicks_124 rfl 0 rfl ?_
                      refine gf5_33 hX (pc := 125) ho0 fl_X5_64 dX5_laysPicks_125 ?_
                      refine g_aload_n hX (pc := 128) (i := 0) dX5_laysPicks_128 rfl 0 rfl ?_
                      refine gf5_35 hX (pc := 129) ho0 fl_X5_272 dX5_laysPicks_129 ?_
                      refine g_iload_n hX (pc := 132) (i := 3) dX5_laysPicks_132 rfl 3 rfl ?_
                      obtain ⟨I30, e_I30, h⟩ := bnd h
                      refine g_iastoreE hX (pc := 133) (s5_33 ho0).1 (s5_33 ho0).2.1 (s5_33 ho0).2.2.1 e_I30 dX5_laysPicks_133 ?_
                      refine g_aload_n hX (pc := 134) (i := 0) dX5_laysPicks_134 rfl 0 rfl ?_
                      refine gf5_34 hX (pc := 135) ho0 fl_X5_67 dX5_laysPicks_135 ?_
                      refine g_aload_n hX (pc := 138) (i := 0) dX5_laysPicks_138 rfl 0 rfl ?_
                      refine gf5_35 hX (pc := 139) ho0 fl_X5_272 dX5_laysPicks_139 ?_
                      refine g_iload hX (pc := 142) dX5_laysPicks_142 4 rfl ?_
                      obtain ⟨I31, e_I31, h⟩ := bnd h
                      refine g_iastoreE hX (pc := 144) (s5_34 ho0).1 (s5_34 ho0).2.1 (s5_34 ho0).2.2.1 e_I31 dX5_laysPicks_144 ?_
                      refine g_aload_n hX (pc := 145) (i := 0) dX5_laysPicks_145 rfl 0 rfl ?_
                      refine g_dup hX (pc := 146) dX5_laysPicks_146 rfl ?_
                      refine gf5_35 hX (pc := 147) ho0 fl_X5_272 dX5_laysPicks_147 ?_
                      refine g_iconst hX (pc := 150) (v := 1) dX5_laysPicks_150 (by decide) ?_
                      refine g_iadd hX (pc := 151) dX5_laysPicks_151 ?_
                      obtain ⟨I32, e_I32, h⟩ := bnd h
                      refine pf5_35 hX (pc := 152) ho0 fl_X5_272 dX5_laysPicks_152 e_I32 ?_
                      refine g_sub (ls' := [(0, .ref o0), (1, .int x1), (2, .int s2), (3, .int s6)]) [0, 1, 2, 3] rfl ?_
                      exact Kj13 I32 (Option.some.inj h)
                  replace h := hpj26
                  clear hpj26
                  refine g_icmp_ge hX (pc := 100) dX5_laysPicks_100 (tgt := 108) (by decide) (fun c25 => ?_) (fun c25 => ?_)
                  · replace h := ifP c25 h
                    refine g_iload hX (pc := 103) dX5_laysPicks_103 4 rfl ?_
                    refine g_goto hX (pc := 105) (tgt := 114) dX5_laysPicks_105 (by decide) ?_
                    exact Kj26 ql16.1 (Option.some.inj h)
                  · replace h := ifN c25 h
                    refine g_aload_n hX (pc := 108) (i := 0) dX5_laysPicks_108 rfl 0 rfl ?_
                    refine gf5_27 hX (pc := 109) ho0 fl_X5_48 dX5_laysPicks_109 ?_
                    refine g_iload_n hX (pc := 112) (i := 3) dX5_laysPicks_112 rfl 3 rfl ?_
                    obtain ⟨v27, e_v27, h⟩ := bnd h
                    refine g_ialoadE hX (pc := 113) (s5_27 ho0).1 (s5_27 ho0).2.1 (s5_27 ho0).2.2.1 e_v27 dX5_laysPicks_113 ?_
                    exact Kj26 v27 (Option.some.inj h)
                obtain ⟨kl16, hkl16⟩ := lp_ex hpl16
                clear hpl16 h
                have Ll16 : ∀ k : Nat, ∀ (s14 : Int32) (s15 : Int32), lpN k (b_X5_laysPicks_44 o0 x1 s6 I7) ((s14, s15)) = some p23 → GW E X (QX E X 0 0 none z J Iz) 6 44 [(0, .ref o0), (1, .int x1), (2, .int s2), (3, .int s6), (4, .int s14), (5, .int s15)] [] z J I7 0 0 := by
                  intro k
                  induction k with
                  | zero => intro s14 s15 h; cases h
                  | succ k ihl16 =>
                    intro s14 s15 h
                    obtain ⟨wl16, h, hwl16⟩ := lpN_s h
                    unfold b_X5_laysPicks_44 at h
                    try dsimp only at h
                    refine g_iload hX (pc := 44) dX5_laysPicks_44 5 rfl ?_
                    refine g_aload_n hX (pc := 46) (i := 0) dX5_laysPicks_46 rfl 0 rfl ?_
                    refine gf5_14 hX (pc := 47) ho0 fl_X5_17 dX5_laysPicks_47 ?_
                    refine g_iconst hX (pc := 50) (v := 0) dX5_laysPicks_50 (by decide) ?_
                    obtain ⟨v17, e_v17, h⟩ := bnd h
                    refine g_ialoadE hX (pc := 51) (s5_14 ho0).1 (s5_14 ho0).2.1 (s5_14 ho0).2.2.1 e_v17 dX5_laysPicks_51 ?_
                    refine g_icmp_ge hX (pc := 52) dX5_laysPicks_52 (tgt := 92) (by decide) (fun c18 => ?_) (fun c18 => ?_)
                    · replace h := ifP c18 h
                      refine g_iload hX (pc := 55) dX5_laysPicks_55 4 rfl ?_
                      refine g_iload_n hX (pc := 57) (i := 1) dX5_laysPicks_57 rfl 1 rfl ?_
                      refine g_iload hX (pc := 58) dX5_laysPicks_58 5 rfl ?_
                      refine g_ishr hX (pc := 60) dX5_laysPicks_60 ?_
                      refine g_iconst hX (pc := 61) (v := 1) dX5_laysPicks_61 (by decide) ?_
                      refine g_iand hX (pc := 62) dX5_laysPicks_62 ?_
                      refine g_iconst hX (pc := 63) (v := 1) dX5_laysPicks_63 (by decide) ?_
                      obtain ⟨p22, hpj20, h⟩ := bnd h
                      have Kj20 : ∀ qj20 : Int32, qj20 = p22 → GW E X (QX E X 0 0 none z J Iz) 6 83 [(0, .ref o0), (1, .int x1), (2, .int s2), (3, .int s6), (4, .int s14), (5, .int s15)] [.int qj20, .int s14] z J I7 0 0 := by
                        intro qj20 hqj20
                        subst hqj20
                        refine g_iadd hX (pc := 83) dX5_laysPicks_83 ?_
                        refine g_istore hX (pc := 84) (ls' := [(0, .ref o0), (1, .int x1), (2, .int s2), (3, .int s6), (4, .int (s14 + qj20)), (5, .int s15)]) [1, 2, 3, 4, 0, 5] dX5_laysPicks_84 (by decide) rfl ?_
                        refine g_iinc hX (pc := 86) (i := 5) (v := s15 + 1) (ls' := [(0, .ref o0), (1, .int x1), (2, .int s2), (3, .int s6), (4, .int (s14 + qj20)), (5, .int (s15 + 1))]) 5 [1, 2, 3, 4, 5, 0] dX5_laysPicks_86 rfl (by rfl) (by decide) rfl ?_
                        refine g_goto hX (pc := 89) (tgt := 44) dX5_laysPicks_89 (by decide) ?_
                        obtain rfl := Option.some.inj h
                        exact ihl16 (s14 + qj20) (s15 + 1) hwl16
                      replace h := hpj20
                      clear hpj20
                      refine g_icmp_ne hX (pc := 64) dX5_laysPicks_64 (tgt := 82) (by decide) (fun c19 => ?_) (fun c19 => ?_)
                      · replace h := ifP c19 h
                        refine g_aload_n hX (pc := 67) (i := 0) dX5_laysPicks_67 rfl 0 rfl ?_
                        refine gf5_23 hX (pc := 68) ho0 fl_X5_45 dX5_laysPicks_68 ?_
                        refine g_bipush hX (pc := 71) (v := 10) dX5_laysPicks_71 (by decide) ?_
                        refine g_iload hX (pc := 73) dX5_laysPicks_73 5 rfl ?_
                        refine g_imul hX (pc := 75) dX5_laysPicks_75 ?_
                        refine g_iload_n hX (pc := 76) (i := 3) dX5_laysPicks_76 rfl 3 rfl ?_
                        refine g_iadd hX (pc := 77) dX5_laysPicks_77 ?_
                        obtain ⟨v21, e_v21, h⟩ := bnd h
                        refine g_ialoadE hX (pc := 78) (s5_23 ho0).1 (s5_23 ho0).2.1 (s5_23 ho0).2.2.1 e_v21 dX5_laysPicks_78 ?_
                        refine g_goto hX (pc := 79) (tgt := 83) dX5_laysPicks_79 (by decide) ?_
                        exact Kj20 v21 (Option.some.inj h)
                      · replace h := ifN c19 h
                        refine g_iconst hX (pc := 82) (v := 0) dX5_laysPicks_82 (by decide) ?_
                        exact Kj20 0 (Option.some.inj h)
                    · replace h := ifN c18 h
                      obtain rfl := Option.some.inj h
                      exact Kl16 ((s14, s15)) hwl16
                exact Ll16 kl16 0 0 hkl16
              · replace h := ifN c12 h
                refine g_goto hX (pc := 35) (tgt := 155) dX5_laysPicks_35 (by decide) ?_
                exact Kj13 I7 (Option.some.inj h)
            · replace h := ifN c10 h
              obtain rfl := Option.some.inj h
              exact Kl8 ((s6, I7)) hwl8
        exact Ll8 kl8 0 I3 hkl8
  exact Ll4 kl4 0 I1 hkl4
noncomputable def f_X5_pick (o0 : Nat) (x1 : Int32) (x2 : Int32) (J : MJ) (I : MI) : Option (Int32 × MI) :=
  (wf I o0 0 0).bind fun I1 =>
  (f_X5_nextWave o0 J I1).bind fun r2 =>
  (f_X5_laysPicks o0 r2 J I1).bind fun r3 =>
  if x1 = ((-1)) then
    some ((r3 o0 35, r3))
  else
    (f_X5_within x1.toInt64 0 (((r3 o0 35) - 1).toInt64)).bind fun r5 =>
    if r5 = 0 then
      some (((-2), r3))
    else
      (f_X5_within x2.toInt64 0 1).bind fun r7 =>
      if r7 = 0 then
        some (((-2), r3))
      else
        (if x2 = 0 then
          (rd 10 (r3 (o0 + 18)) x1).bind fun v11 =>
          some v11
        else
          (rd 10 (r3 (o0 + 19)) x1).bind fun v12 =>
          some v12).bind fun (p13 : Int32) =>
        some ((p13, r3))
theorem nm_X5_pick : yX5_pick.cls ≠ "java/lang/invoke/MethodHandle" ∧ yX5_pick.cls ≠ "java/lang/invoke/VarHandle" ∧ (parseMethodDescriptor yX5_pick.desc).map (fun d => d.parameters.length) = some 2 := by decide +kernel
set_option maxRecDepth 100000 in
set_option maxHeartbeats 4000000 in
theorem ct_X5_pick {E : Ev} {d : Nat} {z : Sh} {J : MJ} {I : MI} {o0 : Nat} {x1 : Int32} {x2 : Int32} {rr : Int32} {Iz : MI} (ho0 : oX5 z o0) (h : f_X5_pick o0 x1 x2 J I = some ((rr, Iz))) : Ct E (d + 4) yX5_pick cX5_pick 3 (some .int) 0 0 [.ref o0, .int x1, .int x2] z J I (some (.int rr)) z J Iz := by
  unfold f_X5_pick at h
  refine Ct.of (own := RX5) (ls := [(0, .ref o0), (1, .int x1), (2, .int x2)]) (by decide) rfl (Nat.le_of_ble_eq_true rfl) rfl ?_
  intro X hr0 hnm hX
  refine g_aload_n hX (pc := 0) (i := 0) dX5_pick_0 rfl 0 rfl ?_
  refine g_iconst hX (pc := 1) (v := 0) dX5_pick_1 (by decide) ?_
  obtain ⟨I1, e_I1, h⟩ := bnd h
  refine pf5_0 hX (pc := 2) ho0 fl_X5_86 dX5_pick_2 e_I1 ?_
  refine g_aload_n hX (pc := 5) (i := 0) dX5_pick_5 rfl 0 rfl ?_
  refine g_aload_n hX (pc := 6) (i := 0) dX5_pick_6 rfl 0 rfl ?_
  obtain ⟨r2, e_r2, h⟩ := bnd h
  refine g_callVi hX (pc := 7) (d := d + 3) hr0 [] (c := 5) (ct_X5_nextWave (d := d + 0) ho0 e_r2) ho0.1.1 ho0.1.2 (by decide) rfl co_X5_nextWave ml_X5_269 im_X5_nextWave sl_X5_nextWave ini_X5 nm_X5_nextWave (by decide) ⟨Nat.le_refl _, Nat.le_refl _⟩ (Nat.le_refl _) (Nat.le_of_ble_eq_true rfl) rfl dX5_pick_7 ?_
  obtain ⟨r3, e_r3, h⟩ := bnd h
  refine g_callVv hX (pc := 10) (d := d + 3) hr0 [.int r2] (c := 5) (ct_X5_laysPicks (d := d + 3) ho0 e_r3) ho0.1.1 ho0.1.2 (by decide) rfl co_X5_laysPicks ml_X5_275 im_X5_laysPicks sl_X5_laysPicks ini_X5 nm_X5_laysPicks (by decide) ⟨Nat.le_refl _, Nat.le_refl _⟩ (Nat.le_refl _) (Nat.le_of_ble_eq_true rfl) rfl dX5_pick_10 ?_
  refine g_iload_n hX (pc := 13) (i := 1) dX5_pick_13 rfl 1 rfl ?_
  refine g_iconst hX (pc := 14) (v := (-1)) dX5_pick_14 (by decide) ?_
  refine g_icmp_ne hX (pc := 15) dX5_pick_15 (tgt := 23) (by decide) (fun c4 => ?_) (fun c4 => ?_)
  · replace h := ifP c4 h
    refine g_aload_n hX (pc := 18) (i := 0) dX5_pick_18 rfl 0 rfl ?_
    refine gf5_35 hX (pc := 19) ho0 fl_X5_272 dX5_pick_19 ?_
    replace h := Option.some.inj h
    obtain ⟨rfl, rfl⟩ := Prod.mk.inj h
    exact g_ireturn hX (Nat.le_refl _) (Nat.le_refl _) dX5_pick_22
  · replace h := ifN c4 h
    refine g_iload_n hX (pc := 23) (i := 1) dX5_pick_23 rfl 1 rfl ?_
    refine g_i2l hX (pc := 24) dX5_pick_24 ?_
    refine g_lconst hX (pc := 25) (v := 0) dX5_pick_25 (by decide) ?_
    refine g_aload_n hX (pc := 26) (i := 0) dX5_pick_26 rfl 0 rfl ?_
    refine gf5_35 hX (pc := 27) ho0 fl_X5_272 dX5_pick_27 ?_
    refine g_iconst hX (pc := 30) (v := 1) dX5_pick_30 (by decide) ?_
    refine g_isub hX (pc := 31) dX5_pick_31 ?_
    refine g_i2l hX (pc := 32) dX5_pick_32 ?_
    obtain ⟨r5, e_r5, h⟩ := bnd h
    refine g_callSi hX (pc := 33) (d := d + 3) hr0 [.long x1.toInt64, .long 0, .long (((r3 o0 35) - 1).toInt64)] (ct_X5_within (d := d + 3)  e_r5) co_X5_within ml_X5_123 sta_X5_within ini_X5 nm_X5_within (by decide) ⟨Nat.le_refl _, Nat.le_refl _⟩ (Nat.le_refl _) (Nat.le_of_ble_eq_true rfl) rfl dX5_pick_33 ?_
    refine g_if_eq hX (pc := 36) dX5_pick_36 (tgt := 49) (by decide) (fun c6 => ?_) (fun c6 => ?_)
    · replace h := ifP c6 h
      refine g_bipush hX (pc := 49) (v := (-2)) dX5_pick_49 (by decide) ?_
      replace h := Option.some.inj h
      obtain ⟨rfl, rfl⟩ := Prod.mk.inj h
      exact g_ireturn hX (Nat.le_refl _) (Nat.le_refl _) dX5_pick_51
    · replace h := ifN c6 h
      refine g_iload_n hX (pc := 39) (i := 2) dX5_pick_39 rfl 2 rfl ?_
      refine g_i2l hX (pc := 40) dX5_pick_40 ?_
      refine g_lconst hX (pc := 41) (v := 0) dX5_pick_41 (by decide) ?_
      refine g_lconst hX (pc := 42) (v := 1) dX5_pick_42 (by decide) ?_
      obtain ⟨r7, e_r7, h⟩ := bnd h
      refine g_callSi hX (pc := 43) (d := d + 3) hr0 [.long x2.toInt64, .long 0, .long 1] (ct_X5_within (d := d + 3)  e_r7) co_X5_within ml_X5_123 sta_X5_within ini_X5 nm_X5_within (by decide) ⟨Nat.le_refl _, Nat.le_refl _⟩ (Nat.le_refl _) (Nat.le_of_ble_eq_true rfl) rfl dX5_pick_43 ?_
      refine g_if_ne hX (pc := 46) dX5_pick_46 (tgt := 52) (by decide) (fun c8 => ?_) (fun c8 => ?_)
      · replace h := ifP c8 h
        refine g_bipush hX (pc := 49) (v := (-2)) dX5_pick_49 (by decide) ?_
        replace h := Option.some.inj h
        obtain ⟨rfl, rfl⟩ := Prod.mk.inj h
        exact g_ireturn hX (Nat.le_refl _) (Nat.le_refl _) dX5_pick_51
      · replace h := ifN c8 h
        refine g_iload_n hX (pc := 52) (i := 2) dX5_pick_52 rfl 2 rfl ?_
        obtain ⟨p13, hpj10, h⟩ := bnd h
        have Kj10 : ∀ qj10 : Int32, qj10 = p13 → GW E X (QX E X 0 0 (some (.int rr)) z J Iz) 3 71 [(0, .ref o0), (1, .int x1), (2, .int x2)] [.int qj10] z J r3 0 0 := by
          intro qj10 hqj10
          subst hqj10
          replace h := Option.some.inj h
          obtain ⟨rfl, rfl⟩ := Prod.mk.inj h
          exact g_ireturn hX (Nat.le_refl _) (Nat.le_refl _) dX5_pick_71
        replace h := hpj10
        clear hpj10
        refine g_if_ne hX (pc := 53) dX5_pick_53 (tgt := 65) (by decide) (fun c9 => ?_) (fun c9 => ?_)
        · replace h := ifP c9 h
          refine g_aload_n hX (pc := 56) (i := 0) dX5_pick_56 rfl 0 rfl ?_
          refine gf5_33 hX (pc := 57) ho0 fl_X5_64 dX5_pick_57 ?_
          refine g_iload_n hX (pc := 60) (i := 1) dX5_pick_60 rfl 1 rfl ?_
          obtain ⟨v11, e_v11, h⟩ := bnd h
          refine g_ialoadE hX (pc := 61) (s5_33 ho0).1 (s5_33 ho0).2.1 (s5_33 ho0).2.2.1 e_v11 dX5_pick_61 ?_
          refine g_goto hX (pc := 62) (tgt := 71) dX5_pick_62 (by decide) ?_
          exact Kj10 v11 (Option.some.inj h)
        · replace h := ifN c9 h
          refine g_aload_n hX (pc := 65) (i := 0) dX5_pick_65 rfl 0 rfl ?_
          refine gf5_34 hX (pc := 66) ho0 fl_X5_67 dX5_pick_66 ?_
          refine g_iload_n hX (pc := 69) (i := 1) dX5_pick_69 rfl 1 rfl ?_
          obtain ⟨v12, e_v12, h⟩ := bnd h
          refine g_ialoadE hX (pc := 70) (s5_34 ho0).1 (s5_34 ho0).2.1 (s5_34 ho0).2.2.1 e_v12 dX5_pick_70 ?_
          exact Kj10 v12 (Option.some.inj h)
noncomputable def b_X5_walkOf_6 (o0 : Nat) (I : MI) (s : Int32 × Int32 × Int32) : Option ((Int32 × Int32 × Int32) ⊕ (Int32 × Int32 × Int32)) :=
  if (I o0 35) < s.2.2 then
    some (.inr ((s.1, s.2.1, s.2.2)))
  else
    (if s.2.2 < (I o0 35) then
      (rd 10 (I (o0 + 18)) s.2.2).bind fun v8 =>
      (rd 20 (I (o0 + 8)) v8).bind fun v9 =>
      some v9
    else
      some 0).bind fun (p10 : Int32) =>
    (if s.2.1 < p10 then
      some (p10 - s.2.1)
    else
      some (s.2.1 - p10)).bind fun (p13 : Int32) =>
    some (.inl ((s.1 + p13, p10, s.2.2 + 1)))
noncomputable def f_X5_walkOf (o0 : Nat) (J : MJ) (I : MI) : Option (Int32) :=
  (lp (b_X5_walkOf_6 o0 I) ((0, 0, 0))).bind fun p14 =>
  some p14.1
theorem nm_X5_walkOf : yX5_walkOf.cls ≠ "java/lang/invoke/MethodHandle" ∧ yX5_walkOf.cls ≠ "java/lang/invoke/VarHandle" ∧ (parseMethodDescriptor yX5_walkOf.desc).map (fun d => d.parameters.length) = some 0 := by decide +kernel
set_option maxRecDepth 100000 in
set_option maxHeartbeats 4000000 in
theorem ct_X5_walkOf {E : Ev} {d : Nat} {z : Sh} {J : MJ} {I : MI} {o0 : Nat} {rr : Int32} (ho0 : oX5 z o0) (h : f_X5_walkOf o0 J I = some rr) : Ct E (d + 0) yX5_walkOf cX5_walkOf 5 (some .int) 0 0 [.ref o0] z J I (some (.int rr)) z J I := by
  unfold f_X5_walkOf at h
  refine Ct.of (own := RX5) (ls := [(0, .ref o0)]) (by decide) rfl (Nat.le_of_ble_eq_true rfl) rfl ?_
  intro X hr0 hnm hX
  refine g_iconst hX (pc := 0) (v := 0) dX5_walkOf_0 (by decide) ?_
  refine g_istore_n hX (pc := 1) (i := 1) (ls' := [(0, .ref o0), (1, .int 0)]) [1, 0] dX5_walkOf_1 rfl (by decide) rfl ?_
  refine g_iconst hX (pc := 2) (v := 0) dX5_walkOf_2 (by decide) ?_
  refine g_istore_n hX (pc := 3) (i := 2) (ls' := [(0, .ref o0), (1, .int 0), (2, .int 0)]) [1, 2, 0] dX5_walkOf_3 rfl (by decide) rfl ?_
  refine g_iconst hX (pc := 4) (v := 0) dX5_walkOf_4 (by decide) ?_
  refine g_istore_n hX (pc := 5) (i := 3) (ls' := [(0, .ref o0), (1, .int 0), (2, .int 0), (3, .int 0)]) [1, 2, 3, 0] dX5_walkOf_5 rfl (by decide) rfl ?_
  obtain ⟨p14, hpl4, h⟩ := bnd h
  have Kl4 : ∀ ql4 : Int32 × Int32 × Int32, ql4 = p14 → GW E X (QX E X 0 0 (some (.int rr)) z J I) 5 68 [(0, .ref o0), (1, .int ql4.1), (2, .int ql4.2.1), (3, .int ql4.2.2)] [] z J I 0 0 := by
    intro ql4 hql4
    subst hql4
    refine g_iload_n hX (pc := 68) (i := 1) dX5_walkOf_68 rfl 1 rfl ?_
    obtain rfl := Option.some.inj h
    exact g_ireturn hX (Nat.le_refl _) (Nat.le_refl _) dX5_walkOf_69
  obtain ⟨kl4, hkl4⟩ := lp_ex hpl4
  clear hpl4 h
  have Ll4 : ∀ k : Nat, ∀ (s1 : Int32) (s2 : Int32) (s3 : Int32), lpN k (b_X5_walkOf_6 o0 I) ((s1, s2, s3)) = some p14 → GW E X (QX E X 0 0 (some (.int rr)) z J I) 5 6 [(0, .ref o0), (1, .int s1), (2, .int s2), (3, .int s3)] [] z J I 0 0 := by
    intro k
    induction k with
    | zero => intro s1 s2 s3 h; cases h
    | succ k ihl4 =>
      intro s1 s2 s3 h
      obtain ⟨wl4, h, hwl4⟩ := lpN_s h
      unfold b_X5_walkOf_6 at h
      try dsimp only at h
      refine g_iload_n hX (pc := 6) (i := 3) dX5_walkOf_6 rfl 3 rfl ?_
      refine g_aload_n hX (pc := 7) (i := 0) dX5_walkOf_7 rfl 0 rfl ?_
      refine gf5_35 hX (pc := 8) ho0 fl_X5_272 dX5_walkOf_8 ?_
      refine g_icmp_gt hX (pc := 11) dX5_walkOf_11 (tgt := 68) (by decide) (fun c5 => ?_) (fun c5 => ?_)
      · replace h := ifP c5 h
        obtain rfl := Option.some.inj h
        exact Kl4 ((s1, s2, s3)) hwl4
      · replace h := ifN c5 h
        refine g_iload_n hX (pc := 14) (i := 3) dX5_walkOf_14 rfl 3 rfl ?_
        refine g_aload_n hX (pc := 15) (i := 0) dX5_walkOf_15 rfl 0 rfl ?_
        refine gf5_35 hX (pc := 16) ho0 fl_X5_272 dX5_walkOf_16 ?_
        obtain ⟨p10, hpj7, h⟩ := bnd h
        have Kj7 : ∀ qj7 : Int32, qj7 = p10 → GW E X (QX E X 0 0 (some (.int rr)) z J I) 5 37 [(0, .ref o0), (1, .int s1), (2, .int s2), (3, .int s3)] [.int qj7] z J I 0 0 := by
          intro qj7 hqj7
          subst hqj7
          refine g_istore hX (pc := 37) (ls' := [(0, .ref o0), (1, .int s1), (2, .int s2), (3, .int s3), (4, .int qj7)]) [1, 2, 3, 4, 0] dX5_walkOf_37 (by decide) rfl ?_
          refine g_iload_n hX (pc := 39) (i := 1) dX5_walkOf_39 rfl 1 rfl ?_
          refine g_iload hX (pc := 40) dX5_walkOf_40 4 rfl ?_
          refine g_iload_n hX (pc := 42) (i := 2) dX5_walkOf_42 rfl 2 rfl ?_
          obtain ⟨p13, hpj12, h⟩ := bnd h
          have Kj12 : ∀ qj12 : Int32, qj12 = p13 → GW E X (QX E X 0 0 (some (.int rr)) z J I) 5 57 [(0, .ref o0), (1, .int s1), (2, .int s2), (3, .int s3), (4, .int qj7)] [.int qj12, .int s1] z J I 0 0 := by
            intro qj12 hqj12
            subst hqj12
            refine g_iadd hX (pc := 57) dX5_walkOf_57 ?_
            refine g_istore_n hX (pc := 58) (i := 1) (ls' := [(0, .ref o0), (1, .int (s1 + qj12)), (2, .int s2), (3, .int s3), (4, .int qj7)]) [1, 0, 2, 3, 4] dX5_walkOf_58 rfl (by decide) rfl ?_
            refine g_iload hX (pc := 59) dX5_walkOf_59 4 rfl ?_
            refine g_istore_n hX (pc := 61) (i := 2) (ls' := [(0, .ref o0), (1, .int (s1 + qj12)), (2, .int qj7), (3, .int s3), (4, .int qj7)]) [1, 2, 0, 3, 4] dX5_walkOf_61 rfl (by decide) rfl ?_
            refine g_iinc hX (pc := 62) (i := 3) (v := s3 + 1) (ls' := [(0, .ref o0), (1, .int (s1 + qj12)), (2, .int qj7), (3, .int (s3 + 1)), (4, .int qj7)]) 3 [1, 2, 3, 0, 4] dX5_walkOf_62 rfl (by rfl) (by decide) rfl ?_
            refine g_goto hX (pc := 65) (tgt := 6) dX5_walkOf_65 (by decide) ?_
            refine g_sub (ls' := [(0, .ref o0), (1, .int (s1 + qj12)), (2, .int qj7), (3, .int (s3 + 1))]) [0, 1, 2, 3] rfl ?_
            obtain rfl := Option.some.inj h
            exact ihl4 (s1 + qj12) qj7 (s3 + 1) hwl4
          replace h := hpj12
          clear hpj12
          refine g_icmp_le hX (pc := 43) dX5_walkOf_43 (tgt := 53) (by decide) (fun c11 => ?_) (fun c11 => ?_)
          · replace h := ifP c11 h
            refine g_iload hX (pc := 46) dX5_walkOf_46 4 rfl ?_
            refine g_iload_n hX (pc := 48) (i := 2) dX5_walkOf_48 rfl 2 rfl ?_
            refine g_isub hX (pc := 49) dX5_walkOf_49 ?_
            refine g_goto hX (pc := 50) (tgt := 57) dX5_walkOf_50 (by decide) ?_
            exact Kj12 (qj7 - s2) (Option.some.inj h)
          · replace h := ifN c11 h
            refine g_iload_n hX (pc := 53) (i := 2) dX5_walkOf_53 rfl 2 rfl ?_
            refine g_iload hX (pc := 54) dX5_walkOf_54 4 rfl ?_
            refine g_isub hX (pc := 56) dX5_walkOf_56 ?_
            exact Kj12 (s2 - qj7) (Option.some.inj h)
        replace h := hpj7
        clear hpj7
        refine g_icmp_ge hX (pc := 19) dX5_walkOf_19 (tgt := 36) (by decide) (fun c6 => ?_) (fun c6 => ?_)
        · replace h := ifP c6 h
          refine g_aload_n hX (pc := 22) (i := 0) dX5_walkOf_22 rfl 0 rfl ?_
          refine gf5_19 hX (pc := 23) ho0 fl_X5_33 dX5_walkOf_23 ?_
          refine g_aload_n hX (pc := 26) (i := 0) dX5_walkOf_26 rfl 0 rfl ?_
          refine gf5_33 hX (pc := 27) ho0 fl_X5_64 dX5_walkOf_27 ?_
          refine g_iload_n hX (pc := 30) (i := 3) dX5_walkOf_30 rfl 3 rfl ?_
          obtain ⟨v8, e_v8, h⟩ := bnd h
          refine g_ialoadE hX (pc := 31) (s5_33 ho0).1 (s5_33 ho0).2.1 (s5_33 ho0).2.2.1 e_v8 dX5_walkOf_31 ?_
          obtain ⟨v9, e_v9, h⟩ := bnd h
          refine g_ialoadE hX (pc := 32) (s5_19 ho0).1 (s5_19 ho0).2.1 (s5_19 ho0).2.2.1 e_v9 dX5_walkOf_32 ?_
          refine g_goto hX (pc := 33) (tgt := 37) dX5_walkOf_33 (by decide) ?_
          exact Kj7 v9 (Option.some.inj h)
        · replace h := ifN c6 h
          refine g_iconst hX (pc := 36) (v := 0) dX5_walkOf_36 (by decide) ?_
          exact Kj7 0 (Option.some.inj h)
  exact Ll4 kl4 0 0 0 hkl4
noncomputable def f_X5_walk (o0 : Nat) (J : MJ) (I : MI) : Option (Int32 × MI) :=
  (wf I o0 0 0).bind fun I1 =>
  (f_X5_nextWave o0 J I1).bind fun r2 =>
  (f_X5_laysPicks o0 r2 J I1).bind fun r3 =>
  (f_X5_walkOf o0 J r3).bind fun r4 =>
  some ((r4, r3))
theorem nm_X5_walk : yX5_walk.cls ≠ "java/lang/invoke/MethodHandle" ∧ yX5_walk.cls ≠ "java/lang/invoke/VarHandle" ∧ (parseMethodDescriptor yX5_walk.desc).map (fun d => d.parameters.length) = some 0 := by decide +kernel
set_option maxRecDepth 100000 in
set_option maxHeartbeats 4000000 in
theorem ct_X5_walk {E : Ev} {d : Nat} {z : Sh} {J : MJ} {I : MI} {o0 : Nat} {rr : Int32} {Iz : MI} (ho0 : oX5 z o0) (h : f_X5_walk o0 J I = some ((rr, Iz))) : Ct E (d + 4) yX5_walk cX5_walk 1 (some .int) 0 0 [.ref o0] z J I (some (.int rr)) z J Iz := by
  unfold f_X5_walk at h
  refine Ct.of (own := RX5) (ls := [(0, .ref o0)]) (by decide) rfl (Nat.le_of_ble_eq_true rfl) rfl ?_
  intro X hr0 hnm hX
  refine g_aload_n hX (pc := 0) (i := 0) dX5_walk_0 rfl 0 rfl ?_
  refine g_iconst hX (pc := 1) (v := 0) dX5_walk_1 (by decide) ?_
  obtain ⟨I1, e_I1, h⟩ := bnd h
  refine pf5_0 hX (pc := 2) ho0 fl_X5_86 dX5_walk_2 e_I1 ?_
  refine g_aload_n hX (pc := 5) (i := 0) dX5_walk_5 rfl 0 rfl ?_
  refine g_aload_n hX (pc := 6) (i := 0) dX5_walk_6 rfl 0 rfl ?_
  obtain ⟨r2, e_r2, h⟩ := bnd h
  refine g_callVi hX (pc := 7) (d := d + 3) hr0 [] (c := 5) (ct_X5_nextWave (d := d + 0) ho0 e_r2) ho0.1.1 ho0.1.2 (by decide) rfl co_X5_nextWave ml_X5_269 im_X5_nextWave sl_X5_nextWave ini_X5 nm_X5_nextWave (by decide) ⟨Nat.le_refl _, Nat.le_refl _⟩ (Nat.le_refl _) (Nat.le_of_ble_eq_true rfl) rfl dX5_walk_7 ?_
  obtain ⟨r3, e_r3, h⟩ := bnd h
  refine g_callVv hX (pc := 10) (d := d + 3) hr0 [.int r2] (c := 5) (ct_X5_laysPicks (d := d + 3) ho0 e_r3) ho0.1.1 ho0.1.2 (by decide) rfl co_X5_laysPicks ml_X5_275 im_X5_laysPicks sl_X5_laysPicks ini_X5 nm_X5_laysPicks (by decide) ⟨Nat.le_refl _, Nat.le_refl _⟩ (Nat.le_refl _) (Nat.le_of_ble_eq_true rfl) rfl dX5_walk_10 ?_
  refine g_aload_n hX (pc := 13) (i := 0) dX5_walk_13 rfl 0 rfl ?_
  obtain ⟨r4, e_r4, h⟩ := bnd h
  refine g_callVi hX (pc := 14) (d := d + 3) hr0 [] (c := 5) (ct_X5_walkOf (d := d + 3) ho0 e_r4) ho0.1.1 ho0.1.2 (by decide) rfl co_X5_walkOf ml_X5_278 im_X5_walkOf sl_X5_walkOf ini_X5 nm_X5_walkOf (by decide) ⟨Nat.le_refl _, Nat.le_refl _⟩ (Nat.le_refl _) (Nat.le_of_ble_eq_true rfl) rfl dX5_walk_14 ?_
  replace h := Option.some.inj h
  obtain ⟨rfl, rfl⟩ := Prod.mk.inj h
  exact g_ireturn hX (Nat.le_refl _) (Nat.le_refl _) dX5_walk_17
noncomputable def f_X5_cost (o0 : Nat) (x1 : Int32) (x2 : Int32) (J : MJ) (I : MI) : Option (Int32 × MI) :=
  (wf I o0 0 0).bind fun I1 =>
  (f_X5_nextWave o0 J I1).bind fun r2 =>
  (f_X5_laysPicks o0 r2 J I1).bind fun r3 =>
  (f_X5_walkOf o0 J r3).bind fun r4 =>
  (if (x1.toInt64 * ((r3 o0 35).toInt64)) = (((x1.toInt64 * ((r3 o0 35).toInt64)).toInt32).toInt64) then
    if (x2.toInt64 * r4.toInt64) = (((x2.toInt64 * r4.toInt64).toInt32).toInt64) then
      if ((x1.toInt64 * ((r3 o0 35).toInt64)) + (x2.toInt64 * r4.toInt64)) = ((((x1.toInt64 * ((r3 o0 35).toInt64)) + (x2.toInt64 * r4.toInt64)).toInt32).toInt64) then
        some 1
      else
        some 0
    else
      some 0
  else
    some 0).bind fun (p9 : Int32) =>
  (if p9 = 0 then
    some ((-2147483648))
  else
    some (((x1.toInt64 * ((r3 o0 35).toInt64)) + (x2.toInt64 * r4.toInt64)).toInt32)).bind fun (p12 : Int32) =>
  some ((p12, r3))
theorem nm_X5_cost : yX5_cost.cls ≠ "java/lang/invoke/MethodHandle" ∧ yX5_cost.cls ≠ "java/lang/invoke/VarHandle" ∧ (parseMethodDescriptor yX5_cost.desc).map (fun d => d.parameters.length) = some 2 := by decide +kernel
set_option maxRecDepth 100000 in
set_option maxHeartbeats 4000000 in
theorem ct_X5_cost {E : Ev} {d : Nat} {z : Sh} {J : MJ} {I : MI} {o0 : Nat} {x1 : Int32} {x2 : Int32} {rr : Int32} {Iz : MI} (ho0 : oX5 z o0) (h : f_X5_cost o0 x1 x2 J I = some ((rr, Iz))) : Ct E (d + 4) yX5_cost cX5_cost 8 (some .int) 0 0 [.ref o0, .int x1, .int x2] z J I (some (.int rr)) z J Iz := by
  unfold f_X5_cost at h
  refine Ct.of (own := RX5) (ls := [(0, .ref o0), (1, .int x1), (2, .int x2)]) (by decide) rfl (Nat.le_of_ble_eq_true rfl) rfl ?_
  intro X hr0 hnm hX
  refine g_aload_n hX (pc := 0) (i := 0) dX5_cost_0 rfl 0 rfl ?_
  refine g_iconst hX (pc := 1) (v := 0) dX5_cost_1 (by decide) ?_
  obtain ⟨I1, e_I1, h⟩ := bnd h
  refine pf5_0 hX (pc := 2) ho0 fl_X5_86 dX5_cost_2 e_I1 ?_
  refine g_aload_n hX (pc := 5) (i := 0) dX5_cost_5 rfl 0 rfl ?_
  refine g_aload_n hX (pc := 6) (i := 0) dX5_cost_6 rfl 0 rfl ?_
  obtain ⟨r2, e_r2, h⟩ := bnd h
  refine g_callVi hX (pc := 7) (d := d + 3) hr0 [] (c := 5) (ct_X5_nextWave (d := d + 0) ho0 e_r2) ho0.1.1 ho0.1.2 (by decide) rfl co_X5_nextWave ml_X5_269 im_X5_nextWave sl_X5_nextWave ini_X5 nm_X5_nextWave (by decide) ⟨Nat.le_refl _, Nat.le_refl _⟩ (Nat.le_refl _) (Nat.le_of_ble_eq_true rfl) rfl dX5_cost_7 ?_
  obtain ⟨r3, e_r3, h⟩ := bnd h
  refine g_callVv hX (pc := 10) (d := d + 3) hr0 [.int r2] (c := 5) (ct_X5_laysPicks (d := d + 3) ho0 e_r3) ho0.1.1 ho0.1.2 (by decide) rfl co_X5_laysPicks ml_X5_275 im_X5_laysPicks sl_X5_laysPicks ini_X5 nm_X5_laysPicks (by decide) ⟨Nat.le_refl _, Nat.le_refl _⟩ (Nat.le_refl _) (Nat.le_of_ble_eq_true rfl) rfl dX5_cost_10 ?_
  refine g_iload_n hX (pc := 13) (i := 1) dX5_cost_13 rfl 1 rfl ?_
  refine g_i2l hX (pc := 14) dX5_cost_14 ?_
  refine g_aload_n hX (pc := 15) (i := 0) dX5_cost_15 rfl 0 rfl ?_
  refine gf5_35 hX (pc := 16) ho0 fl_X5_272 dX5_cost_16 ?_
  refine g_i2l hX (pc := 19) dX5_cost_19 ?_
  refine g_lmul hX (pc := 20) dX5_cost_20 ?_
  refine g_lstore_n hX (pc := 21) (i := 3) (ls' := [(0, .ref o0), (1, .int x1), (2, .int x2), (3, .long (x1.toInt64 * ((r3 o0 35).toInt64)))]) [1, 2, 3, 0] dX5_cost_21 rfl (by decide) rfl ?_
  refine g_iload_n hX (pc := 22) (i := 2) dX5_cost_22 rfl 2 rfl ?_
  refine g_i2l hX (pc := 23) dX5_cost_23 ?_
  refine g_aload_n hX (pc := 24) (i := 0) dX5_cost_24 rfl 0 rfl ?_
  obtain ⟨r4, e_r4, h⟩ := bnd h
  refine g_callVi hX (pc := 25) (d := d + 3) hr0 [] (c := 5) (ct_X5_walkOf (d := d + 3) ho0 e_r4) ho0.1.1 ho0.1.2 (by decide) rfl co_X5_walkOf ml_X5_278 im_X5_walkOf sl_X5_walkOf ini_X5 nm_X5_walkOf (by decide) ⟨Nat.le_refl _, Nat.le_refl _⟩ (Nat.le_refl _) (Nat.le_of_ble_eq_true rfl) rfl dX5_cost_25 ?_
  refine g_i2l hX (pc := 28) dX5_cost_28 ?_
  refine g_lmul hX (pc := 29) dX5_cost_29 ?_
  refine g_lstore hX (pc := 30) (ls' := [(0, .ref o0), (1, .int x1), (2, .int x2), (3, .long (x1.toInt64 * ((r3 o0 35).toInt64))), (5, .long (x2.toInt64 * r4.toInt64))]) [1, 2, 3, 4, 0] dX5_cost_30 (by decide) rfl ?_
  refine g_lload_n hX (pc := 32) (i := 3) dX5_cost_32 rfl 3 rfl ?_
  refine g_lload_n hX (pc := 33) (i := 3) dX5_cost_33 rfl 3 rfl ?_
  refine g_l2i hX (pc := 34) dX5_cost_34 ?_
  refine g_i2l hX (pc := 35) dX5_cost_35 ?_
  obtain ⟨p9, hpj6, h⟩ := bnd h
  have Kj6 : ∀ qj6 : Int32, qj6 = p9 → GW E X (QX E X 0 0 (some (.int rr)) z J Iz) 8 69 [(0, .ref o0), (1, .int x1), (2, .int x2), (3, .long (x1.toInt64 * ((r3 o0 35).toInt64))), (5, .long (x2.toInt64 * r4.toInt64))] [.int qj6] z J r3 0 0 := by
    intro qj6 hqj6
    subst hqj6
    refine g_istore hX (pc := 69) (ls' := [(0, .ref o0), (1, .int x1), (2, .int x2), (3, .long (x1.toInt64 * ((r3 o0 35).toInt64))), (5, .long (x2.toInt64 * r4.toInt64)), (7, .int qj6)]) [1, 2, 3, 4, 5, 0] dX5_cost_69 (by decide) rfl ?_
    refine g_iload hX (pc := 71) dX5_cost_71 5 rfl ?_
    obtain ⟨p12, hpj11, h⟩ := bnd h
    have Kj11 : ∀ qj11 : Int32, qj11 = p12 → GW E X (QX E X 0 0 (some (.int rr)) z J Iz) 8 87 [(0, .ref o0), (1, .int x1), (2, .int x2), (3, .long (x1.toInt64 * ((r3 o0 35).toInt64))), (5, .long (x2.toInt64 * r4.toInt64)), (7, .int qj6)] [.int qj11] z J r3 0 0 := by
      intro qj11 hqj11
      subst hqj11
      replace h := Option.some.inj h
      obtain ⟨rfl, rfl⟩ := Prod.mk.inj h
      exact g_ireturn hX (Nat.le_refl _) (Nat.le_refl _) dX5_cost_87
    replace h := hpj11
    clear hpj11
    refine g_if_eq hX (pc := 73) dX5_cost_73 (tgt := 84) (by decide) (fun c10 => ?_) (fun c10 => ?_)
    · replace h := ifP c10 h
      refine g_ldc_w hX (pc := 84) cst_X5_283 dX5_cost_84 ?_
      exact Kj11 ((-2147483648)) (Option.some.inj h)
    · replace h := ifN c10 h
      refine g_lload_n hX (pc := 76) (i := 3) dX5_cost_76 rfl 3 rfl ?_
      refine g_lload hX (pc := 77) dX5_cost_77 4 rfl ?_
      refine g_ladd hX (pc := 79) dX5_cost_79 ?_
      refine g_l2i hX (pc := 80) dX5_cost_80 ?_
      refine g_goto hX (pc := 81) (tgt := 87) dX5_cost_81 (by decide) ?_
      exact Kj11 (((x1.toInt64 * ((r3 o0 35).toInt64)) + (x2.toInt64 * r4.toInt64)).toInt32) (Option.some.inj h)
  replace h := hpj6
  clear hpj6
  refine g_lcmp_ne hX (pc := 36) dX5_cost_36 dX5_cost_37 (tgt := 68) (by decide) (fun c5 => ?_) (fun c5 => ?_)
  · replace h := ifP c5 h
    refine g_lload hX (pc := 40) dX5_cost_40 4 rfl ?_
    refine g_lload hX (pc := 42) dX5_cost_42 4 rfl ?_
    refine g_l2i hX (pc := 44) dX5_cost_44 ?_
    refine g_i2l hX (pc := 45) dX5_cost_45 ?_
    refine g_lcmp_ne hX (pc := 46) dX5_cost_46 dX5_cost_47 (tgt := 68) (by decide) (fun c7 => ?_) (fun c7 => ?_)
    · replace h := ifP c7 h
      refine g_lload_n hX (pc := 50) (i := 3) dX5_cost_50 rfl 3 rfl ?_
      refine g_lload hX (pc := 51) dX5_cost_51 4 rfl ?_
      refine g_ladd hX (pc := 53) dX5_cost_53 ?_
      refine g_lload_n hX (pc := 54) (i := 3) dX5_cost_54 rfl 3 rfl ?_
      refine g_lload hX (pc := 55) dX5_cost_55 4 rfl ?_
      refine g_ladd hX (pc := 57) dX5_cost_57 ?_
      refine g_l2i hX (pc := 58) dX5_cost_58 ?_
      refine g_i2l hX (pc := 59) dX5_cost_59 ?_
      refine g_lcmp_ne hX (pc := 60) dX5_cost_60 dX5_cost_61 (tgt := 68) (by decide) (fun c8 => ?_) (fun c8 => ?_)
      · replace h := ifP c8 h
        refine g_iconst hX (pc := 64) (v := 1) dX5_cost_64 (by decide) ?_
        refine g_goto hX (pc := 65) (tgt := 69) dX5_cost_65 (by decide) ?_
        exact Kj6 1 (Option.some.inj h)
      · replace h := ifN c8 h
        refine g_iconst hX (pc := 68) (v := 0) dX5_cost_68 (by decide) ?_
        exact Kj6 0 (Option.some.inj h)
    · replace h := ifN c7 h
      refine g_iconst hX (pc := 68) (v := 0) dX5_cost_68 (by decide) ?_
      exact Kj6 0 (Option.some.inj h)
  · replace h := ifN c5 h
    refine g_iconst hX (pc := 68) (v := 0) dX5_cost_68 (by decide) ?_
    exact Kj6 0 (Option.some.inj h)
noncomputable def b_X5_keeps_11 (o0 : Nat) (s : Int32 × MI) : Option ((Int32 × MI) ⊕ (Int32 × MI)) :=
  if s.1 < 23287 then
    (rd 25404 (s.2 (o0 + 14)) (s.1 + 2117)).bind fun v7 =>
    (wr 25404 s.2 (o0 + 14) s.1 v7).bind fun I8 =>
    some (.inl ((s.1 + 1, I8)))
  else
    some (.inr ((s.1, s.2)))
noncomputable def b_X5_keeps_52 (o0 : Nat) (s : Int32 × MI) : Option ((Int32 × MI) ⊕ (Int32 × MI)) :=
  if s.1 < 2117 then
    (rd 2117 (s.2 (o0 + 13)) s.1).bind fun v16 =>
    (wr 25404 s.2 (o0 + 14) ((2117 * (s.2 o0 29)) + s.1) v16).bind fun I17 =>
    some (.inl ((s.1 + 1, I17)))
  else
    some (.inr ((s.1, s.2)))
noncomputable def f_X5_keeps (o0 : Nat) (J : MJ) (I : MI) : Option (MI) :=
  (if (I o0 29) = 12 then
    (lp (b_X5_keeps_11 o0) ((0, I))).bind fun p9 =>
    (wf p9.2 o0 29 ((p9.2 o0 29) - 1)).bind fun I10 =>
    some I10
  else
    some I).bind fun (p11 : MI) =>
  (lp (b_X5_keeps_52 o0) ((0, p11))).bind fun p18 =>
  (wf p18.2 o0 29 ((p18.2 o0 29) + 1)).bind fun I19 =>
  some I19
theorem nm_X5_keeps : yX5_keeps.cls ≠ "java/lang/invoke/MethodHandle" ∧ yX5_keeps.cls ≠ "java/lang/invoke/VarHandle" ∧ (parseMethodDescriptor yX5_keeps.desc).map (fun d => d.parameters.length) = some 0 := by decide +kernel
set_option maxRecDepth 100000 in
set_option maxHeartbeats 4000000 in
theorem ct_X5_keeps {E : Ev} {d : Nat} {z : Sh} {J : MJ} {I : MI} {o0 : Nat} {Iz : MI} (ho0 : oX5 z o0) (h : f_X5_keeps o0 J I = some Iz) : Ct E (d + 0) yX5_keeps cX5_keeps 2 none 0 0 [.ref o0] z J I none z J Iz := by
  unfold f_X5_keeps at h
  refine Ct.of (own := RX5) (ls := [(0, .ref o0)]) (by decide) rfl (Nat.le_of_ble_eq_true rfl) rfl ?_
  intro X hr0 hnm hX
  refine g_aload_n hX (pc := 0) (i := 0) dX5_keeps_0 rfl 0 rfl ?_
  refine gf5_29 hX (pc := 1) ho0 fl_X5_222 dX5_keeps_1 ?_
  refine g_bipush hX (pc := 4) (v := 12) dX5_keeps_4 (by decide) ?_
  obtain ⟨p11, hpj2, h⟩ := bnd h
  have Kj2 : ∀ qj2 : MI, qj2 = p11 → GW E X (QX E X 0 0 none z J Iz) 2 50 [(0, .ref o0)] [] z J qj2 0 0 := by
    intro qj2 hqj2
    subst hqj2
    refine g_iconst hX (pc := 50) (v := 0) dX5_keeps_50 (by decide) ?_
    refine g_istore_n hX (pc := 51) (i := 1) (ls' := [(0, .ref o0), (1, .int 0)]) [1, 0] dX5_keeps_51 rfl (by decide) rfl ?_
    obtain ⟨p18, hpl14, h⟩ := bnd h
    have Kl14 : ∀ ql14 : Int32 × MI, ql14 = p18 → GW E X (QX E X 0 0 none z J Iz) 2 86 [(0, .ref o0), (1, .int ql14.1)] [] z J ql14.2 0 0 := by
      intro ql14 hql14
      subst hql14
      refine g_aload_n hX (pc := 86) (i := 0) dX5_keeps_86 rfl 0 rfl ?_
      refine g_dup hX (pc := 87) dX5_keeps_87 rfl ?_
      refine gf5_29 hX (pc := 88) ho0 fl_X5_222 dX5_keeps_88 ?_
      refine g_iconst hX (pc := 91) (v := 1) dX5_keeps_91 (by decide) ?_
      refine g_iadd hX (pc := 92) dX5_keeps_92 ?_
      obtain ⟨I19, e_I19, h⟩ := bnd h
      refine pf5_29 hX (pc := 93) ho0 fl_X5_222 dX5_keeps_93 e_I19 ?_
      obtain rfl := Option.some.inj h
      exact g_return hX (Nat.le_refl _) (Nat.le_refl _) dX5_keeps_96
    obtain ⟨kl14, hkl14⟩ := lp_ex hpl14
    clear hpl14 h
    have Ll14 : ∀ k : Nat, ∀ (s12 : Int32) (I13 : MI), lpN k (b_X5_keeps_52 o0) ((s12, I13)) = some p18 → GW E X (QX E X 0 0 none z J Iz) 2 52 [(0, .ref o0), (1, .int s12)] [] z J I13 0 0 := by
      intro k
      induction k with
      | zero => intro s12 I13 h; cases h
      | succ k ihl14 =>
        intro s12 I13 h
        obtain ⟨wl14, h, hwl14⟩ := lpN_s h
        unfold b_X5_keeps_52 at h
        try dsimp only at h
        refine g_iload_n hX (pc := 52) (i := 1) dX5_keeps_52 rfl 1 rfl ?_
        refine g_sipush hX (pc := 53) (v := 2117) dX5_keeps_53 (by decide) ?_
        refine g_icmp_ge hX (pc := 56) dX5_keeps_56 (tgt := 86) (by decide) (fun c15 => ?_) (fun c15 => ?_)
        · replace h := ifP c15 h
          refine g_aload_n hX (pc := 59) (i := 0) dX5_keeps_59 rfl 0 rfl ?_
          refine gf5_28 hX (pc := 60) ho0 fl_X5_51 dX5_keeps_60 ?_
          refine g_sipush hX (pc := 63) (v := 2117) dX5_keeps_63 (by decide) ?_
          refine g_aload_n hX (pc := 66) (i := 0) dX5_keeps_66 rfl 0 rfl ?_
          refine gf5_29 hX (pc := 67) ho0 fl_X5_222 dX5_keeps_67 ?_
          refine g_imul hX (pc := 70) dX5_keeps_70 ?_
          refine g_iload_n hX (pc := 71) (i := 1) dX5_keeps_71 rfl 1 rfl ?_
          refine g_iadd hX (pc := 72) dX5_keeps_72 ?_
          refine g_aload_n hX (pc := 73) (i := 0) dX5_keeps_73 rfl 0 rfl ?_
          refine gf5_27 hX (pc := 74) ho0 fl_X5_48 dX5_keeps_74 ?_
          refine g_iload_n hX (pc := 77) (i := 1) dX5_keeps_77 rfl 1 rfl ?_
          obtain ⟨v16, e_v16, h⟩ := bnd h
          refine g_ialoadE hX (pc := 78) (s5_27 ho0).1 (s5_27 ho0).2.1 (s5_27 ho0).2.2.1 e_v16 dX5_keeps_78 ?_
          obtain ⟨I17, e_I17, h⟩ := bnd h
          refine g_iastoreE hX (pc := 79) (s5_28 ho0).1 (s5_28 ho0).2.1 (s5_28 ho0).2.2.1 e_I17 dX5_keeps_79 ?_
          refine g_iinc hX (pc := 80) (i := 1) (v := s12 + 1) (ls' := [(0, .ref o0), (1, .int (s12 + 1))]) 1 [1, 0] dX5_keeps_80 rfl (by rfl) (by decide) rfl ?_
          refine g_goto hX (pc := 83) (tgt := 52) dX5_keeps_83 (by decide) ?_
          obtain rfl := Option.some.inj h
          exact ihl14 (s12 + 1) I17 hwl14
        · replace h := ifN c15 h
          obtain rfl := Option.some.inj h
          exact Kl14 ((s12, I13)) hwl14
    exact Ll14 kl14 0 qj2 hkl14
  replace h := hpj2
  clear hpj2
  refine g_icmp_ne hX (pc := 6) dX5_keeps_6 (tgt := 50) (by decide) (fun c1 => ?_) (fun c1 => ?_)
  · replace h := ifP c1 h
    refine g_iconst hX (pc := 9) (v := 0) dX5_keeps_9 (by decide) ?_
    refine g_istore_n hX (pc := 10) (i := 1) (ls' := [(0, .ref o0), (1, .int 0)]) [1, 0] dX5_keeps_10 rfl (by decide) rfl ?_
    obtain ⟨p9, hpl5, h⟩ := bnd h
    have Kl5 : ∀ ql5 : Int32 × MI, ql5 = p9 → GW E X (QX E X 0 0 none z J Iz) 2 40 [(0, .ref o0), (1, .int ql5.1)] [] z J ql5.2 0 0 := by
      intro ql5 hql5
      subst hql5
      refine g_aload_n hX (pc := 40) (i := 0) dX5_keeps_40 rfl 0 rfl ?_
      refine g_dup hX (pc := 41) dX5_keeps_41 rfl ?_
      refine gf5_29 hX (pc := 42) ho0 fl_X5_222 dX5_keeps_42 ?_
      refine g_iconst hX (pc := 45) (v := 1) dX5_keeps_45 (by decide) ?_
      refine g_isub hX (pc := 46) dX5_keeps_46 ?_
      obtain ⟨I10, e_I10, h⟩ := bnd h
      refine pf5_29 hX (pc := 47) ho0 fl_X5_222 dX5_keeps_47 e_I10 ?_
      refine g_sub (ls' := [(0, .ref o0)]) [0] rfl ?_
      exact Kj2 I10 (Option.some.inj h)
    obtain ⟨kl5, hkl5⟩ := lp_ex hpl5
    clear hpl5 h
    have Ll5 : ∀ k : Nat, ∀ (s3 : Int32) (I4 : MI), lpN k (b_X5_keeps_11 o0) ((s3, I4)) = some p9 → GW E X (QX E X 0 0 none z J Iz) 2 11 [(0, .ref o0), (1, .int s3)] [] z J I4 0 0 := by
      intro k
      induction k with
      | zero => intro s3 I4 h; cases h
      | succ k ihl5 =>
        intro s3 I4 h
        obtain ⟨wl5, h, hwl5⟩ := lpN_s h
        unfold b_X5_keeps_11 at h
        try dsimp only at h
        refine g_iload_n hX (pc := 11) (i := 1) dX5_keeps_11 rfl 1 rfl ?_
        refine g_sipush hX (pc := 12) (v := 23287) dX5_keeps_12 (by decide) ?_
        refine g_icmp_ge hX (pc := 15) dX5_keeps_15 (tgt := 40) (by decide) (fun c6 => ?_) (fun c6 => ?_)
        · replace h := ifP c6 h
          refine g_aload_n hX (pc := 18) (i := 0) dX5_keeps_18 rfl 0 rfl ?_
          refine gf5_28 hX (pc := 19) ho0 fl_X5_51 dX5_keeps_19 ?_
          refine g_iload_n hX (pc := 22) (i := 1) dX5_keeps_22 rfl 1 rfl ?_
          refine g_aload_n hX (pc := 23) (i := 0) dX5_keeps_23 rfl 0 rfl ?_
          refine gf5_28 hX (pc := 24) ho0 fl_X5_51 dX5_keeps_24 ?_
          refine g_iload_n hX (pc := 27) (i := 1) dX5_keeps_27 rfl 1 rfl ?_
          refine g_sipush hX (pc := 28) (v := 2117) dX5_keeps_28 (by decide) ?_
          refine g_iadd hX (pc := 31) dX5_keeps_31 ?_
          obtain ⟨v7, e_v7, h⟩ := bnd h
          refine g_ialoadE hX (pc := 32) (s5_28 ho0).1 (s5_28 ho0).2.1 (s5_28 ho0).2.2.1 e_v7 dX5_keeps_32 ?_
          obtain ⟨I8, e_I8, h⟩ := bnd h
          refine g_iastoreE hX (pc := 33) (s5_28 ho0).1 (s5_28 ho0).2.1 (s5_28 ho0).2.2.1 e_I8 dX5_keeps_33 ?_
          refine g_iinc hX (pc := 34) (i := 1) (v := s3 + 1) (ls' := [(0, .ref o0), (1, .int (s3 + 1))]) 1 [1, 0] dX5_keeps_34 rfl (by rfl) (by decide) rfl ?_
          refine g_goto hX (pc := 37) (tgt := 11) dX5_keeps_37 (by decide) ?_
          obtain rfl := Option.some.inj h
          exact ihl5 (s3 + 1) I8 hwl5
        · replace h := ifN c6 h
          obtain rfl := Option.some.inj h
          exact Kl5 ((s3, I4)) hwl5
    exact Ll5 kl5 0 I hkl5
  · replace h := ifN c1 h
    exact Kj2 I (Option.some.inj h)
noncomputable def f_X5_toBelt (o0 : Nat) (x1 : Int32) (x2 : Int32) (J : MJ) (I : MI) : Option (MI) :=
  (rd 2117 (I (o0 + 13)) 370).bind fun v1 =>
  (wr 2117 I (o0 + 13) (371 + v1) ((10 * x1) + x2)).bind fun I2 =>
  (rd 2117 (I2 (o0 + 13)) 370).bind fun v3 =>
  (wr 2117 I2 (o0 + 13) 370 (v3 + 1)).bind fun I4 =>
  some I4
theorem nm_X5_toBelt : yX5_toBelt.cls ≠ "java/lang/invoke/MethodHandle" ∧ yX5_toBelt.cls ≠ "java/lang/invoke/VarHandle" ∧ (parseMethodDescriptor yX5_toBelt.desc).map (fun d => d.parameters.length) = some 2 := by decide +kernel
set_option maxRecDepth 100000 in
set_option maxHeartbeats 4000000 in
theorem ct_X5_toBelt {E : Ev} {d : Nat} {z : Sh} {J : MJ} {I : MI} {o0 : Nat} {x1 : Int32} {x2 : Int32} {Iz : MI} (ho0 : oX5 z o0) (h : f_X5_toBelt o0 x1 x2 J I = some Iz) : Ct E (d + 0) yX5_toBelt cX5_toBelt 3 none 0 0 [.ref o0, .int x1, .int x2] z J I none z J Iz := by
  unfold f_X5_toBelt at h
  refine Ct.of (own := RX5) (ls := [(0, .ref o0), (1, .int x1), (2, .int x2)]) (by decide) rfl (Nat.le_of_ble_eq_true rfl) rfl ?_
  intro X hr0 hnm hX
  refine g_aload_n hX (pc := 0) (i := 0) dX5_toBelt_0 rfl 0 rfl ?_
  refine gf5_27 hX (pc := 1) ho0 fl_X5_48 dX5_toBelt_1 ?_
  refine g_sipush hX (pc := 4) (v := 371) dX5_toBelt_4 (by decide) ?_
  refine g_aload_n hX (pc := 7) (i := 0) dX5_toBelt_7 rfl 0 rfl ?_
  refine gf5_27 hX (pc := 8) ho0 fl_X5_48 dX5_toBelt_8 ?_
  refine g_sipush hX (pc := 11) (v := 370) dX5_toBelt_11 (by decide) ?_
  obtain ⟨v1, e_v1, h⟩ := bnd h
  refine g_ialoadE hX (pc := 14) (s5_27 ho0).1 (s5_27 ho0).2.1 (s5_27 ho0).2.2.1 e_v1 dX5_toBelt_14 ?_
  refine g_iadd hX (pc := 15) dX5_toBelt_15 ?_
  refine g_bipush hX (pc := 16) (v := 10) dX5_toBelt_16 (by decide) ?_
  refine g_iload_n hX (pc := 18) (i := 1) dX5_toBelt_18 rfl 1 rfl ?_
  refine g_imul hX (pc := 19) dX5_toBelt_19 ?_
  refine g_iload_n hX (pc := 20) (i := 2) dX5_toBelt_20 rfl 2 rfl ?_
  refine g_iadd hX (pc := 21) dX5_toBelt_21 ?_
  obtain ⟨I2, e_I2, h⟩ := bnd h
  refine g_iastoreE hX (pc := 22) (s5_27 ho0).1 (s5_27 ho0).2.1 (s5_27 ho0).2.2.1 e_I2 dX5_toBelt_22 ?_
  refine g_aload_n hX (pc := 23) (i := 0) dX5_toBelt_23 rfl 0 rfl ?_
  refine gf5_27 hX (pc := 24) ho0 fl_X5_48 dX5_toBelt_24 ?_
  refine g_sipush hX (pc := 27) (v := 370) dX5_toBelt_27 (by decide) ?_
  refine g_dup2 hX (pc := 30) dX5_toBelt_30 rfl rfl ?_
  obtain ⟨v3, e_v3, h⟩ := bnd h
  refine g_ialoadE hX (pc := 31) (s5_27 ho0).1 (s5_27 ho0).2.1 (s5_27 ho0).2.2.1 e_v3 dX5_toBelt_31 ?_
  refine g_iconst hX (pc := 32) (v := 1) dX5_toBelt_32 (by decide) ?_
  refine g_iadd hX (pc := 33) dX5_toBelt_33 ?_
  obtain ⟨I4, e_I4, h⟩ := bnd h
  refine g_iastoreE hX (pc := 34) (s5_27 ho0).1 (s5_27 ho0).2.1 (s5_27 ho0).2.2.1 e_I4 dX5_toBelt_34 ?_
  obtain rfl := Option.some.inj h
  exact g_return hX (Nat.le_refl _) (Nat.le_refl _) dX5_toBelt_35
noncomputable def b_X5_earliestBehind_5 (o0 : Nat) (x1 : Int32) (x2 : Int32) (J : MJ) (I : MI) (s : Int32 × Int32) : Option ((Int32 × Int32) ⊕ (Int32 × Int32)) :=
  (rd 2 (I (o0 + 3)) 0).bind fun v4 =>
  if s.2 < v4 then
    (if ((x1 >>> (s.2 &&& 31)) &&& 1) = 0 then
      some s.1
    else
      if x2 < 0 then
        if s.1 < 0 then
          some s.2
        else
          (f_X5_isEarlier o0 s.2 s.1 J I).bind fun r10 =>
          if r10 = 0 then
            some s.1
          else
            some s.2
      else
        (f_X5_isEarlier o0 x2 s.2 J I).bind fun r12 =>
        if r12 = 0 then
          some s.1
        else
          if s.1 < 0 then
            some s.2
          else
            (f_X5_isEarlier o0 s.2 s.1 J I).bind fun r15 =>
            if r15 = 0 then
              some s.1
            else
              some s.2).bind fun (p17 : Int32) =>
    some (.inl ((p17, s.2 + 1)))
  else
    some (.inr ((s.1, s.2)))
noncomputable def f_X5_earliestBehind (o0 : Nat) (x1 : Int32) (x2 : Int32) (J : MJ) (I : MI) : Option (Int32) :=
  (lp (b_X5_earliestBehind_5 o0 x1 x2 J I) (((-1), 0))).bind fun p18 =>
  some p18.1
theorem nm_X5_earliestBehind : yX5_earliestBehind.cls ≠ "java/lang/invoke/MethodHandle" ∧ yX5_earliestBehind.cls ≠ "java/lang/invoke/VarHandle" ∧ (parseMethodDescriptor yX5_earliestBehind.desc).map (fun d => d.parameters.length) = some 2 := by decide +kernel
set_option maxRecDepth 100000 in
set_option maxHeartbeats 4000000 in
theorem ct_X5_earliestBehind {E : Ev} {d : Nat} {z : Sh} {J : MJ} {I : MI} {o0 : Nat} {x1 : Int32} {x2 : Int32} {rr : Int32} (ho0 : oX5 z o0) (h : f_X5_earliestBehind o0 x1 x2 J I = some rr) : Ct E (d + 1) yX5_earliestBehind cX5_earliestBehind 5 (some .int) 0 0 [.ref o0, .int x1, .int x2] z J I (some (.int rr)) z J I := by
  unfold f_X5_earliestBehind at h
  refine Ct.of (own := RX5) (ls := [(0, .ref o0), (1, .int x1), (2, .int x2)]) (by decide) rfl (Nat.le_of_ble_eq_true rfl) rfl ?_
  intro X hr0 hnm hX
  refine g_iconst hX (pc := 0) (v := (-1)) dX5_earliestBehind_0 (by decide) ?_
  refine g_istore_n hX (pc := 1) (i := 3) (ls' := [(0, .ref o0), (1, .int x1), (2, .int x2), (3, .int ((-1)))]) [1, 2, 3, 0] dX5_earliestBehind_1 rfl (by decide) rfl ?_
  refine g_iconst hX (pc := 2) (v := 0) dX5_earliestBehind_2 (by decide) ?_
  refine g_istore hX (pc := 3) (ls' := [(0, .ref o0), (1, .int x1), (2, .int x2), (3, .int ((-1))), (4, .int 0)]) [1, 2, 3, 4, 0] dX5_earliestBehind_3 (by decide) rfl ?_
  obtain ⟨p18, hpl3, h⟩ := bnd h
  have Kl3 : ∀ ql3 : Int32 × Int32, ql3 = p18 → GW E X (QX E X 0 0 (some (.int rr)) z J I) 5 65 [(0, .ref o0), (1, .int x1), (2, .int x2), (3, .int ql3.1), (4, .int ql3.2)] [] z J I 0 0 := by
    intro ql3 hql3
    subst hql3
    refine g_iload_n hX (pc := 65) (i := 3) dX5_earliestBehind_65 rfl 3 rfl ?_
    obtain rfl := Option.some.inj h
    exact g_ireturn hX (Nat.le_refl _) (Nat.le_refl _) dX5_earliestBehind_66
  obtain ⟨kl3, hkl3⟩ := lp_ex hpl3
  clear hpl3 h
  have Ll3 : ∀ k : Nat, ∀ (s1 : Int32) (s2 : Int32), lpN k (b_X5_earliestBehind_5 o0 x1 x2 J I) ((s1, s2)) = some p18 → GW E X (QX E X 0 0 (some (.int rr)) z J I) 5 5 [(0, .ref o0), (1, .int x1), (2, .int x2), (3, .int s1), (4, .int s2)] [] z J I 0 0 := by
    intro k
    induction k with
    | zero => intro s1 s2 h; cases h
    | succ k ihl3 =>
      intro s1 s2 h
      obtain ⟨wl3, h, hwl3⟩ := lpN_s h
      unfold b_X5_earliestBehind_5 at h
      try dsimp only at h
      refine g_iload hX (pc := 5) dX5_earliestBehind_5 4 rfl ?_
      refine g_aload_n hX (pc := 7) (i := 0) dX5_earliestBehind_7 rfl 0 rfl ?_
      refine gf5_14 hX (pc := 8) ho0 fl_X5_17 dX5_earliestBehind_8 ?_
      refine g_iconst hX (pc := 11) (v := 0) dX5_earliestBehind_11 (by decide) ?_
      obtain ⟨v4, e_v4, h⟩ := bnd h
      refine g_ialoadE hX (pc := 12) (s5_14 ho0).1 (s5_14 ho0).2.1 (s5_14 ho0).2.2.1 e_v4 dX5_earliestBehind_12 ?_
      refine g_icmp_ge hX (pc := 13) dX5_earliestBehind_13 (tgt := 65) (by decide) (fun c5 => ?_) (fun c5 => ?_)
      · replace h := ifP c5 h
        refine g_iload_n hX (pc := 16) (i := 1) dX5_earliestBehind_16 rfl 1 rfl ?_
        refine g_iload hX (pc := 17) dX5_earliestBehind_17 4 rfl ?_
        refine g_ishr hX (pc := 19) dX5_earliestBehind_19 ?_
        refine g_iconst hX (pc := 20) (v := 1) dX5_earliestBehind_20 (by decide) ?_
        refine g_iand hX (pc := 21) dX5_earliestBehind_21 ?_
        obtain ⟨p17, hpj7, h⟩ := bnd h
        have Kj7 : ∀ qj7 : Int32, qj7 = p17 → GW E X (QX E X 0 0 (some (.int rr)) z J I) 5 59 [(0, .ref o0), (1, .int x1), (2, .int x2), (3, .int qj7), (4, .int s2)] [] z J I 0 0 := by
          intro qj7 hqj7
          subst hqj7
          refine g_iinc hX (pc := 59) (i := 4) (v := s2 + 1) (ls' := [(0, .ref o0), (1, .int x1), (2, .int x2), (3, .int qj7), (4, .int (s2 + 1))]) 4 [1, 2, 3, 4, 0] dX5_earliestBehind_59 rfl (by rfl) (by decide) rfl ?_
          refine g_goto hX (pc := 62) (tgt := 5) dX5_earliestBehind_62 (by decide) ?_
          obtain rfl := Option.some.inj h
          exact ihl3 qj7 (s2 + 1) hwl3
        replace h := hpj7
        clear hpj7
        refine g_if_eq hX (pc := 22) dX5_earliestBehind_22 (tgt := 59) (by decide) (fun c6 => ?_) (fun c6 => ?_)
        · replace h := ifP c6 h
          exact Kj7 s1 (Option.some.inj h)
        · replace h := ifN c6 h
          refine g_iload_n hX (pc := 25) (i := 2) dX5_earliestBehind_25 rfl 2 rfl ?_
          refine g_if_lt hX (pc := 26) dX5_earliestBehind_26 (tgt := 42) (by decide) (fun c8 => ?_) (fun c8 => ?_)
          · replace h := ifP c8 h
            refine g_iload_n hX (pc := 42) (i := 3) dX5_earliestBehind_42 rfl 3 rfl ?_
            refine g_if_lt hX (pc := 43) dX5_earliestBehind_43 (tgt := 56) (by decide) (fun c9 => ?_) (fun c9 => ?_)
            · replace h := ifP c9 h
              refine g_iload hX (pc := 56) dX5_earliestBehind_56 4 rfl ?_
              refine g_istore_n hX (pc := 58) (i := 3) (ls' := [(0, .ref o0), (1, .int x1), (2, .int x2), (3, .int s2), (4, .int s2)]) [1, 2, 3, 0, 4] dX5_earliestBehind_58 rfl (by decide) rfl ?_
              exact Kj7 s2 (Option.some.inj h)
            · replace h := ifN c9 h
              refine g_aload_n hX (pc := 46) (i := 0) dX5_earliestBehind_46 rfl 0 rfl ?_
              refine g_iload hX (pc := 47) dX5_earliestBehind_47 4 rfl ?_
              refine g_iload_n hX (pc := 49) (i := 3) dX5_earliestBehind_49 rfl 3 rfl ?_
              obtain ⟨r10, e_r10, h⟩ := bnd h
              refine g_callVi hX (pc := 50) (d := d + 0) hr0 [.int s2, .int s1] (c := 5) (ct_X5_isEarlier (d := d + 0) ho0 e_r10) ho0.1.1 ho0.1.2 (by decide) rfl co_X5_isEarlier ml_X5_247 im_X5_isEarlier sl_X5_isEarlier ini_X5 nm_X5_isEarlier (by decide) ⟨Nat.le_refl _, Nat.le_refl _⟩ (Nat.le_refl _) (Nat.le_of_ble_eq_true rfl) rfl dX5_earliestBehind_50 ?_
              refine g_if_eq hX (pc := 53) dX5_earliestBehind_53 (tgt := 59) (by decide) (fun c11 => ?_) (fun c11 => ?_)
              · replace h := ifP c11 h
                exact Kj7 s1 (Option.some.inj h)
              · replace h := ifN c11 h
                refine g_iload hX (pc := 56) dX5_earliestBehind_56 4 rfl ?_
                refine g_istore_n hX (pc := 58) (i := 3) (ls' := [(0, .ref o0), (1, .int x1), (2, .int x2), (3, .int s2), (4, .int s2)]) [1, 2, 3, 0, 4] dX5_earliestBehind_58 rfl (by decide) rfl ?_
                exact Kj7 s2 (Option.some.inj h)
          · replace h := ifN c8 h
            refine g_aload_n hX (pc := 29) (i := 0) dX5_earliestBehind_29 rfl 0 rfl ?_
            refine g_iload_n hX (pc := 30) (i := 2) dX5_earliestBehind_30 rfl 2 rfl ?_
            refine g_iload hX (pc := 31) dX5_earliestBehind_31 4 rfl ?_
            obtain ⟨r12, e_r12, h⟩ := bnd h
            refine g_callVi hX (pc := 33) (d := d + 0) hr0 [.int x2, .int s2] (c := 5) (ct_X5_isEarlier (d := d + 0) ho0 e_r12) ho0.1.1 ho0.1.2 (by decide) rfl co_X5_isEarlier ml_X5_247 im_X5_isEarlier sl_X5_isEarlier ini_X5 nm_X5_isEarlier (by decide) ⟨Nat.le_refl _, Nat.le_refl _⟩ (Nat.le_refl _) (Nat.le_of_ble_eq_true rfl) rfl dX5_earliestBehind_33 ?_
            refine g_if_ne hX (pc := 36) dX5_earliestBehind_36 (tgt := 42) (by decide) (fun c13 => ?_) (fun c13 => ?_)
            · replace h := ifP c13 h
              refine g_goto hX (pc := 39) (tgt := 59) dX5_earliestBehind_39 (by decide) ?_
              exact Kj7 s1 (Option.some.inj h)
            · replace h := ifN c13 h
              refine g_iload_n hX (pc := 42) (i := 3) dX5_earliestBehind_42 rfl 3 rfl ?_
              refine g_if_lt hX (pc := 43) dX5_earliestBehind_43 (tgt := 56) (by decide) (fun c14 => ?_) (fun c14 => ?_)
              · replace h := ifP c14 h
                refine g_iload hX (pc := 56) dX5_earliestBehind_56 4 rfl ?_
                refine g_istore_n hX (pc := 58) (i := 3) (ls' := [(0, .ref o0), (1, .int x1), (2, .int x2), (3, .int s2), (4, .int s2)]) [1, 2, 3, 0, 4] dX5_earliestBehind_58 rfl (by decide) rfl ?_
                exact Kj7 s2 (Option.some.inj h)
              · replace h := ifN c14 h
                refine g_aload_n hX (pc := 46) (i := 0) dX5_earliestBehind_46 rfl 0 rfl ?_
                refine g_iload hX (pc := 47) dX5_earliestBehind_47 4 rfl ?_
                refine g_iload_n hX (pc := 49) (i := 3) dX5_earliestBehind_49 rfl 3 rfl ?_
                obtain ⟨r15, e_r15, h⟩ := bnd h
                refine g_callVi hX (pc := 50) (d := d + 0) hr0 [.int s2, .int s1] (c := 5) (ct_X5_isEarlier (d := d + 0) ho0 e_r15) ho0.1.1 ho0.1.2 (by decide) rfl co_X5_isEarlier ml_X5_247 im_X5_isEarlier sl_X5_isEarlier ini_X5 nm_X5_isEarlier (by decide) ⟨Nat.le_refl _, Nat.le_refl _⟩ (Nat.le_refl _) (Nat.le_of_ble_eq_true rfl) rfl dX5_earliestBehind_50 ?_
                refine g_if_eq hX (pc := 53) dX5_earliestBehind_53 (tgt := 59) (by decide) (fun c16 => ?_) (fun c16 => ?_)
                · replace h := ifP c16 h
                  exact Kj7 s1 (Option.some.inj h)
                · replace h := ifN c16 h
                  refine g_iload hX (pc := 56) dX5_earliestBehind_56 4 rfl ?_
                  refine g_istore_n hX (pc := 58) (i := 3) (ls' := [(0, .ref o0), (1, .int x1), (2, .int x2), (3, .int s2), (4, .int s2)]) [1, 2, 3, 0, 4] dX5_earliestBehind_58 rfl (by decide) rfl ?_
                  exact Kj7 s2 (Option.some.inj h)
      · replace h := ifN c5 h
        obtain rfl := Option.some.inj h
        exact Kl3 ((s1, s2)) hwl3
  exact Ll3 kl3 ((-1)) 0 hkl3
noncomputable def b_X5_release_61 (o0 : Nat) (s6 : Int32) (s : Int32 × MI) : Option ((Int32 × MI) ⊕ (Int32 × MI)) :=
  if s.1 < 10 then
    (rd 320 (s.2 (o0 + 12)) ((10 * s6) + s.1)).bind fun v18 =>
    (wr 2117 s.2 (o0 + 13) ((170 + (10 * s6)) + s.1) v18).bind fun I19 =>
    some (.inl ((s.1 + 1, I19)))
  else
    some (.inr ((s.1, s.2)))
noncomputable def b_X5_release_27 (o0 : Nat) (r2 : Int32) (s : Int32 × MI) : Option ((Int32 × MI) ⊕ (Int32 × MI)) :=
  (rd 2 (s.2 (o0 + 3)) 0).bind fun v9 =>
  if s.1 < v9 then
    (if ((r2 >>> (s.1 &&& 31)) &&& 1) = 0 then
      some s.2
    else
      (wr 2117 s.2 (o0 + 13) (330 + s.1) 1).bind fun I13 =>
      (lp (b_X5_release_61 o0 s.1) ((0, I13))).bind fun p20 =>
      some p20.2).bind fun (p21 : MI) =>
    some (.inl ((s.1 + 1, p21)))
  else
    some (.inr ((s.1, s.2)))
noncomputable def b_X5_release_154 (o0 : Nat) (J : MJ) (v27 : Int32) (s33 : Int32) (s : Int32 × MI) : Option ((Int32 × MI) ⊕ (Int32 × MI)) :=
  if 0 < s.1 then
    (rd 2117 (s.2 (o0 + 13)) ((170 + (10 * s33)) + v27)).bind fun v41 =>
    if 0 < v41 then
      (rd 2117 (s.2 (o0 + 13)) ((170 + (10 * s33)) + v27)).bind fun v43 =>
      (wr 2117 s.2 (o0 + 13) ((170 + (10 * s33)) + v27) (v43 - 1)).bind fun I44 =>
      (f_X5_toBelt o0 s33 v27 J I44).bind fun r45 =>
      some (.inl ((s.1 + (-1), r45)))
    else
      some (.inr ((s.1, s.2)))
  else
    some (.inr ((s.1, s.2)))
noncomputable def b_X5_release_149 (o0 : Nat) (J : MJ) (r2 : Int32) (v27 : Int32) (s : Int32 × Int32 × MI) : Option ((Int32 × Int32 × MI) ⊕ (Int32 × Int32 × MI)) :=
  if s.2.1 < 0 then
    some (.inr ((s.1, s.2.1, s.2.2)))
  else
    (lp (b_X5_release_154 o0 J v27 s.2.1) ((s.1, s.2.2))).bind fun p46 =>
    (f_X5_earliestBehind o0 r2 s.2.1 J p46.2).bind fun r47 =>
    some (.inl ((p46.1, r47, p46.2)))
noncomputable def b_X5_release_107 (o0 : Nat) (J : MJ) (r2 : Int32) (s : Int32 × MI) : Option ((Int32 × MI) ⊕ (Int32 × MI)) :=
  if s.1 < (s.2 o0 35) then
    (rd 10 (s.2 (o0 + 18)) s.1).bind fun v27 =>
    (rd 10 (s.2 (o0 + 19)) s.1).bind fun v28 =>
    (rd 2117 (s.2 (o0 + 13)) v27).bind fun v29 =>
    (wr 2117 s.2 (o0 + 13) v27 (v29 - v28)).bind fun I30 =>
    (f_X5_earliestBehind o0 r2 ((-1)) J I30).bind fun r31 =>
    (lp (b_X5_release_149 o0 J r2 v27) ((v28, r31, I30))).bind fun p48 =>
    some (.inl ((s.1 + 1, p48.2.2)))
  else
    some (.inr ((s.1, s.2)))
noncomputable def f_X5_release (o0 : Nat) (J : MJ) (I : MI) : Option (Int32 × MI) :=
  (wf I o0 0 0).bind fun I1 =>
  (f_X5_nextWave o0 J I1).bind fun r2 =>
  if r2 = 0 then
    some (((-1), I1))
  else
    (f_X5_keeps o0 J I1).bind fun r4 =>
    (f_X5_laysPicks o0 r2 J r4).bind fun r5 =>
    (lp (b_X5_release_27 o0 r2) ((0, r5))).bind fun p22 =>
    (lp (b_X5_release_107 o0 J r2) ((0, p22.2))).bind fun p49 =>
    (f_X5_count1 r2).bind fun r50 =>
    some ((r50, p49.2))
theorem nm_X5_release : yX5_release.cls ≠ "java/lang/invoke/MethodHandle" ∧ yX5_release.cls ≠ "java/lang/invoke/VarHandle" ∧ (parseMethodDescriptor yX5_release.desc).map (fun d => d.parameters.length) = some 0 := by decide +kernel
set_option maxRecDepth 100000 in
set_option maxHeartbeats 4000000 in
theorem ct_X5_release {E : Ev} {d : Nat} {z : Sh} {J : MJ} {I : MI} {o0 : Nat} {rr : Int32} {Iz : MI} (ho0 : oX5 z o0) (h : f_X5_release o0 J I = some ((rr, Iz))) : Ct E (d + 4) yX5_release cX5_release 6 (some .int) 0 0 [.ref o0] z J I (some (.int rr)) z J Iz := by
  unfold f_X5_release at h
  refine Ct.of (own := RX5) (ls := [(0, .ref o0)]) (by decide) rfl (Nat.le_of_ble_eq_true rfl) rfl ?_
  intro X hr0 hnm hX
  refine g_aload_n hX (pc := 0) (i := 0) dX5_release_0 rfl 0 rfl ?_
  refine g_iconst hX (pc := 1) (v := 0) dX5_release_1 (by decide) ?_
  obtain ⟨I1, e_I1, h⟩ := bnd h
  refine pf5_0 hX (pc := 2) ho0 fl_X5_86 dX5_release_2 e_I1 ?_
  refine g_aload_n hX (pc := 5) (i := 0) dX5_release_5 rfl 0 rfl ?_
  obtain ⟨r2, e_r2, h⟩ := bnd h
  refine g_callVi hX (pc := 6) (d := d + 3) hr0 [] (c := 5) (ct_X5_nextWave (d := d + 0) ho0 e_r2) ho0.1.1 ho0.1.2 (by decide) rfl co_X5_nextWave ml_X5_269 im_X5_nextWave sl_X5_nextWave ini_X5 nm_X5_nextWave (by decide) ⟨Nat.le_refl _, Nat.le_refl _⟩ (Nat.le_refl _) (Nat.le_of_ble_eq_true rfl) rfl dX5_release_6 ?_
  refine g_istore_n hX (pc := 9) (i := 1) (ls' := [(0, .ref o0), (1, .int r2)]) [1, 0] dX5_release_9 rfl (by decide) rfl ?_
  refine g_iload_n hX (pc := 10) (i := 1) dX5_release_10 rfl 1 rfl ?_
  refine g_if_ne hX (pc := 11) dX5_release_11 (tgt := 16) (by decide) (fun c3 => ?_) (fun c3 => ?_)
  · replace h := ifP c3 h
    refine g_iconst hX (pc := 14) (v := (-1)) dX5_release_14 (by decide) ?_
    replace h := Option.some.inj h
    obtain ⟨rfl, rfl⟩ := Prod.mk.inj h
    exact g_ireturn hX (Nat.le_refl _) (Nat.le_refl _) dX5_release_15
  · replace h := ifN c3 h
    refine g_aload_n hX (pc := 16) (i := 0) dX5_release_16 rfl 0 rfl ?_
    obtain ⟨r4, e_r4, h⟩ := bnd h
    refine g_callVv hX (pc := 17) (d := d + 3) hr0 [] (c := 5) (ct_X5_keeps (d := d + 3) ho0 e_r4) ho0.1.1 ho0.1.2 (by decide) rfl co_X5_keeps ml_X5_284 im_X5_keeps sl_X5_keeps ini_X5 nm_X5_keeps (by decide) ⟨Nat.le_refl _, Nat.le_refl _⟩ (Nat.le_refl _) (Nat.le_of_ble_eq_true rfl) rfl dX5_release_17 ?_
    refine g_aload_n hX (pc := 20) (i := 0) dX5_release_20 rfl 0 rfl ?_
    refine g_iload_n hX (pc := 21) (i := 1) dX5_release_21 rfl 1 rfl ?_
    obtain ⟨r5, e_r5, h⟩ := bnd h
    refine g_callVv hX (pc := 22) (d := d + 3) hr0 [.int r2] (c := 5) (ct_X5_laysPicks (d := d + 3) ho0 e_r5) ho0.1.1 ho0.1.2 (by decide) rfl co_X5_laysPicks ml_X5_275 im_X5_laysPicks sl_X5_laysPicks ini_X5 nm_X5_laysPicks (by decide) ⟨Nat.le_refl _, Nat.le_refl _⟩ (Nat.le_refl _) (Nat.le_of_ble_eq_true rfl) rfl dX5_release_22 ?_
    refine g_iconst hX (pc := 25) (v := 0) dX5_release_25 (by decide) ?_
    refine g_istore_n hX (pc := 26) (i := 2) (ls' := [(0, .ref o0), (1, .int r2), (2, .int 0)]) [1, 2, 0] dX5_release_26 rfl (by decide) rfl ?_
    obtain ⟨p22, hpl8, h⟩ := bnd h
    have Kl8 : ∀ ql8 : Int32 × MI, ql8 = p22 → GW E X (QX E X 0 0 (some (.int rr)) z J Iz) 6 105 [(0, .ref o0), (1, .int r2), (2, .int ql8.1)] [] z J ql8.2 0 0 := by
      intro ql8 hql8
      subst hql8
      refine g_iconst hX (pc := 105) (v := 0) dX5_release_105 (by decide) ?_
      refine g_istore_n hX (pc := 106) (i := 2) (ls' := [(0, .ref o0), (1, .int r2), (2, .int 0)]) [1, 2, 0] dX5_release_106 rfl (by decide) rfl ?_
      obtain ⟨p49, hpl25, h⟩ := bnd h
      have Kl25 : ∀ ql25 : Int32 × MI, ql25 = p49 → GW E X (QX E X 0 0 (some (.int rr)) z J Iz) 6 229 [(0, .ref o0), (1, .int r2), (2, .int ql25.1)] [] z J ql25.2 0 0 := by
        intro ql25 hql25
        subst hql25
        refine g_iload_n hX (pc := 229) (i := 1) dX5_release_229 rfl 1 rfl ?_
        obtain ⟨r50, e_r50, h⟩ := bnd h
        refine g_callSi hX (pc := 230) (d := d + 3) hr0 [.int r2] (ct_X5_count1 (d := d + 3)  e_r50) co_X5_count1 ml_X5_253 sta_X5_count1 ini_X5 nm_X5_count1 (by decide) ⟨Nat.le_refl _, Nat.le_refl _⟩ (Nat.le_refl _) (Nat.le_of_ble_eq_true rfl) rfl dX5_release_230 ?_
        replace h := Option.some.inj h
        obtain ⟨rfl, rfl⟩ := Prod.mk.inj h
        exact g_ireturn hX (Nat.le_refl _) (Nat.le_refl _) dX5_release_233
      obtain ⟨kl25, hkl25⟩ := lp_ex hpl25
      clear hpl25 h
      have Ll25 : ∀ k : Nat, ∀ (s23 : Int32) (I24 : MI), lpN k (b_X5_release_107 o0 J r2) ((s23, I24)) = some p49 → GW E X (QX E X 0 0 (some (.int rr)) z J Iz) 6 107 [(0, .ref o0), (1, .int r2), (2, .int s23)] [] z J I24 0 0 := by
        intro k
        induction k with
        | zero => intro s23 I24 h; cases h
        | succ k ihl25 =>
          intro s23 I24 h
          obtain ⟨wl25, h, hwl25⟩ := lpN_s h
          unfold b_X5_release_107 at h
          try dsimp only at h
          refine g_iload_n hX (pc := 107) (i := 2) dX5_release_107 rfl 2 rfl ?_
          refine g_aload_n hX (pc := 108) (i := 0) dX5_release_108 rfl 0 rfl ?_
          refine gf5_35 hX (pc := 109) ho0 fl_X5_272 dX5_release_109 ?_
          refine g_icmp_ge hX (pc := 112) dX5_release_112 (tgt := 229) (by decide) (fun c26 => ?_) (fun c26 => ?_)
          · replace h := ifP c26 h
            refine g_aload_n hX (pc := 115) (i := 0) dX5_release_115 rfl 0 rfl ?_
            refine gf5_33 hX (pc := 116) ho0 fl_X5_64 dX5_release_116 ?_
            refine g_iload_n hX (pc := 119) (i := 2) dX5_release_119 rfl 2 rfl ?_
            obtain ⟨v27, e_v27, h⟩ := bnd h
            refine g_ialoadE hX (pc := 120) (s5_33 ho0).1 (s5_33 ho0).2.1 (s5_33 ho0).2.2.1 e_v27 dX5_release_120 ?_
            refine g_istore_n hX (pc := 121) (i := 3) (ls' := [(0, .ref o0), (1, .int r2), (2, .int s23), (3, .int v27)]) [1, 2, 3, 0] dX5_release_121 rfl (by decide) rfl ?_
            refine g_aload_n hX (pc := 122) (i := 0) dX5_release_122 rfl 0 rfl ?_
            refine gf5_34 hX (pc := 123) ho0 fl_X5_67 dX5_release_123 ?_
            refine g_iload_n hX (pc := 126) (i := 2) dX5_release_126 rfl 2 rfl ?_
            obtain ⟨v28, e_v28, h⟩ := bnd h
            refine g_ialoadE hX (pc := 127) (s5_34 ho0).1 (s5_34 ho0).2.1 (s5_34 ho0).2.2.1 e_v28 dX5_release_127 ?_
            refine g_istore hX (pc := 128) (ls' := [(0, .ref o0), (1, .int r2), (2, .int s23), (3, .int v27), (4, .int v28)]) [1, 2, 3, 4, 0] dX5_release_128 (by decide) rfl ?_
            refine g_aload_n hX (pc := 130) (i := 0) dX5_release_130 rfl 0 rfl ?_
            refine gf5_27 hX (pc := 131) ho0 fl_X5_48 dX5_release_131 ?_
            refine g_iload_n hX (pc := 134) (i := 3) dX5_release_134 rfl 3 rfl ?_
            refine g_dup2 hX (pc := 135) dX5_release_135 rfl rfl ?_
            obtain ⟨v29, e_v29, h⟩ := bnd h
            refine g_ialoadE hX (pc := 136) (s5_27 ho0).1 (s5_27 ho0).2.1 (s5_27 ho0).2.2.1 e_v29 dX5_release_136 ?_
            refine g_iload hX (pc := 137) dX5_release_137 4 rfl ?_
            refine g_isub hX (pc := 139) dX5_release_139 ?_
            obtain ⟨I30, e_I30, h⟩ := bnd h
            refine g_iastoreE hX (pc := 140) (s5_27 ho0).1 (s5_27 ho0).2.1 (s5_27 ho0).2.2.1 e_I30 dX5_release_140 ?_
            refine g_aload_n hX (pc := 141) (i := 0) dX5_release_141 rfl 0 rfl ?_
            refine g_iload_n hX (pc := 142) (i := 1) dX5_release_142 rfl 1 rfl ?_
            refine g_iconst hX (pc := 143) (v := (-1)) dX5_release_143 (by decide) ?_
            obtain ⟨r31, e_r31, h⟩ := bnd h
            refine g_callVi hX (pc := 144) (d := d + 3) hr0 [.int r2, .int ((-1))] (c := 5) (ct_X5_earliestBehind (d := d + 2) ho0 e_r31) ho0.1.1 ho0.1.2 (by decide) rfl co_X5_earliestBehind ml_X5_287 im_X5_earliestBehind sl_X5_earliestBehind ini_X5 nm_X5_earliestBehind (by decide) ⟨Nat.le_refl _, Nat.le_refl _⟩ (Nat.le_refl _) (Nat.le_of_ble_eq_true rfl) rfl dX5_release_144 ?_
            refine g_istore hX (pc := 147) (ls' := [(0, .ref o0), (1, .int r2), (2, .int s23), (3, .int v27), (4, .int v28), (5, .int r31)]) [1, 2, 3, 4, 5, 0] dX5_release_147 (by decide) rfl ?_
            obtain ⟨p48, hpl35, h⟩ := bnd h
            have Kl35 : ∀ ql35 : Int32 × Int32 × MI, ql35 = p48 → GW E X (QX E X 0 0 (some (.int rr)) z J Iz) 6 223 [(0, .ref o0), (1, .int r2), (2, .int s23), (3, .int v27), (4, .int ql35.1), (5, .int ql35.2.1)] [] z J ql35.2.2 0 0 := by
              intro ql35 hql35
              subst hql35
              refine g_iinc hX (pc := 223) (i := 2) (v := s23 + 1) (ls' := [(0, .ref o0), (1, .int r2), (2, .int (s23 + 1)), (3, .int v27), (4, .int ql35.1), (5, .int ql35.2.1)]) 2 [1, 2, 0, 3, 4, 5] dX5_release_223 rfl (by rfl) (by decide) rfl ?_
              refine g_goto hX (pc := 226) (tgt := 107) dX5_release_226 (by decide) ?_
              refine g_sub (ls' := [(0, .ref o0), (1, .int r2), (2, .int (s23 + 1))]) [0, 1, 2] rfl ?_
              obtain rfl := Option.some.inj h
              exact ihl25 (s23 + 1) ql35.2.2 hwl25
            obtain ⟨kl35, hkl35⟩ := lp_ex hpl35
            clear hpl35 h
            have Ll35 : ∀ k : Nat, ∀ (s32 : Int32) (s33 : Int32) (I34 : MI), lpN k (b_X5_release_149 o0 J r2 v27) ((s32, s33, I34)) = some p48 → GW E X (QX E X 0 0 (some (.int rr)) z J Iz) 6 149 [(0, .ref o0), (1, .int r2), (2, .int s23), (3, .int v27), (4, .int s32), (5, .int s33)] [] z J I34 0 0 := by
              intro k
              induction k with
              | zero => intro s32 s33 I34 h; cases h
              | succ k ihl35 =>
                intro s32 s33 I34 h
                obtain ⟨wl35, h, hwl35⟩ := lpN_s h
                unfold b_X5_release_149 at h
                try dsimp only at h
                refine g_iload hX (pc := 149) dX5_release_149 5 rfl ?_
                refine g_if_lt hX (pc := 151) dX5_release_151 (tgt := 223) (by decide) (fun c36 => ?_) (fun c36 => ?_)
                · replace h := ifP c36 h
                  obtain rfl := Option.some.inj h
                  exact Kl35 ((s32, s33, I34)) hwl35
                · replace h := ifN c36 h
                  obtain ⟨p46, hpl39, h⟩ := bnd h
                  have Kl39 : ∀ ql39 : Int32 × MI, ql39 = p46 → GW E X (QX E X 0 0 (some (.int rr)) z J Iz) 6 211 [(0, .ref o0), (1, .int r2), (2, .int s23), (3, .int v27), (4, .int ql39.1), (5, .int s33)] [] z J ql39.2 0 0 := by
                    intro ql39 hql39
                    subst hql39
                    refine g_aload_n hX (pc := 211) (i := 0) dX5_release_211 rfl 0 rfl ?_
                    refine g_iload_n hX (pc := 212) (i := 1) dX5_release_212 rfl 1 rfl ?_
                    refine g_iload hX (pc := 213) dX5_release_213 5 rfl ?_
                    obtain ⟨r47, e_r47, h⟩ := bnd h
                    refine g_callVi hX (pc := 215) (d := d + 3) hr0 [.int r2, .int s33] (c := 5) (ct_X5_earliestBehind (d := d + 2) ho0 e_r47) ho0.1.1 ho0.1.2 (by decide) rfl co_X5_earliestBehind ml_X5_287 im_X5_earliestBehind sl_X5_earliestBehind ini_X5 nm_X5_earliestBehind (by decide) ⟨Nat.le_refl _, Nat.le_refl _⟩ (Nat.le_refl _) (Nat.le_of_ble_eq_true rfl) rfl dX5_release_215 ?_
                    refine g_istore hX (pc := 218) (ls' := [(0, .ref o0), (1, .int r2), (2, .int s23), (3, .int v27), (4, .int ql39.1), (5, .int r47)]) [1, 2, 3, 4, 5, 0] dX5_release_218 (by decide) rfl ?_
                    refine g_goto hX (pc := 220) (tgt := 149) dX5_release_220 (by decide) ?_
                    obtain rfl := Option.some.inj h
                    exact ihl35 ql39.1 r47 ql39.2 hwl35
                  obtain ⟨kl39, hkl39⟩ := lp_ex hpl39
                  clear hpl39 h
                  have Ll39 : ∀ k : Nat, ∀ (s37 : Int32) (I38 : MI), lpN k (b_X5_release_154 o0 J v27 s33) ((s37, I38)) = some p46 → GW E X (QX E X 0 0 (some (.int rr)) z J Iz) 6 154 [(0, .ref o0), (1, .int r2), (2, .int s23), (3, .int v27), (4, .int s37), (5, .int s33)] [] z J I38 0 0 := by
                    intro k
                    induction k with
                    | zero => intro s37 I38 h; cases h
                    | succ k ihl39 =>
                      intro s37 I38 h
                      obtain ⟨wl39, h, hwl39⟩ := lpN_s h
                      unfold b_X5_release_154 at h
                      try dsimp only at h
                      refine g_iload hX (pc := 154) dX5_release_154 4 rfl ?_
                      refine g_if_le hX (pc := 156) dX5_release_156 (tgt := 211) (by decide) (fun c40 => ?_) (fun c40 => ?_)
                      · replace h := ifP c40 h
                        refine g_aload_n hX (pc := 159) (i := 0) dX5_release_159 rfl 0 rfl ?_
                        refine gf5_27 hX (pc := 160) ho0 fl_X5_48 dX5_release_160 ?_
                        refine g_sipush hX (pc := 163) (v := 170) dX5_release_163 (by decide) ?_
                        refine g_bipush hX (pc := 166) (v := 10) dX5_release_166 (by decide) ?_
                        refine g_iload hX (pc := 168) dX5_release_168 5 rfl ?_
                        refine g_imul hX (pc := 170) dX5_release_170 ?_
                        refine g_iadd hX (pc := 171) dX5_release_171 ?_
                        refine g_iload_n hX (pc := 172) (i := 3) dX5_release_172 rfl 3 rfl ?_
                        refine g_iadd hX (pc := 173) dX5_release_173 ?_
                        obtain ⟨v41, e_v41, h⟩ := bnd h
                        refine g_ialoadE hX (pc := 174) (s5_27 ho0).1 (s5_27 ho0).2.1 (s5_27 ho0).2.2.1 e_v41 dX5_release_174 ?_
                        refine g_if_le hX (pc := 175) dX5_release_175 (tgt := 211) (by decide) (fun c42 => ?_) (fun c42 => ?_)
                        · replace h := ifP c42 h
                          refine g_aload_n hX (pc := 178) (i := 0) dX5_release_178 rfl 0 rfl ?_
                          refine gf5_27 hX (pc := 179) ho0 fl_X5_48 dX5_release_179 ?_
                          refine g_sipush hX (pc := 182) (v := 170) dX5_release_182 (by decide) ?_
                          refine g_bipush hX (pc := 185) (v := 10) dX5_release_185 (by decide) ?_
                          refine g_iload hX (pc := 187) dX5_release_187 5 rfl ?_
                          refine g_imul hX (pc := 189) dX5_release_189 ?_
                          refine g_iadd hX (pc := 190) dX5_release_190 ?_
                          refine g_iload_n hX (pc := 191) (i := 3) dX5_release_191 rfl 3 rfl ?_
                          refine g_iadd hX (pc := 192) dX5_release_192 ?_
                          refine g_dup2 hX (pc := 193) dX5_release_193 rfl rfl ?_
                          obtain ⟨v43, e_v43, h⟩ := bnd h
                          refine g_ialoadE hX (pc := 194) (s5_27 ho0).1 (s5_27 ho0).2.1 (s5_27 ho0).2.2.1 e_v43 dX5_release_194 ?_
                          refine g_iconst hX (pc := 195) (v := 1) dX5_release_195 (by decide) ?_
                          refine g_isub hX (pc := 196) dX5_release_196 ?_
                          obtain ⟨I44, e_I44, h⟩ := bnd h
                          refine g_iastoreE hX (pc := 197) (s5_27 ho0).1 (s5_27 ho0).2.1 (s5_27 ho0).2.2.1 e_I44 dX5_release_197 ?_
                          refine g_iinc hX (pc := 198) (i := 4) (v := s37 + (-1)) (ls' := [(0, .ref o0), (1, .int r2), (2, .int s23), (3, .int v27), (4, .int (s37 + (-1))), (5, .int s33)]) 4 [1, 2, 3, 4, 0, 5] dX5_release_198 rfl (by rfl) (by decide) rfl ?_
                          refine g_aload_n hX (pc := 201) (i := 0) dX5_release_201 rfl 0 rfl ?_
                          refine g_iload hX (pc := 202) dX5_release_202 5 rfl ?_
                          refine g_iload_n hX (pc := 204) (i := 3) dX5_release_204 rfl 3 rfl ?_
                          obtain ⟨r45, e_r45, h⟩ := bnd h
                          refine g_callVv hX (pc := 205) (d := d + 3) hr0 [.int s33, .int v27] (c := 5) (ct_X5_toBelt (d := d + 3) ho0 e_r45) ho0.1.1 ho0.1.2 (by decide) rfl co_X5_toBelt ml_X5_290 im_X5_toBelt sl_X5_toBelt ini_X5 nm_X5_toBelt (by decide) ⟨Nat.le_refl _, Nat.le_refl _⟩ (Nat.le_refl _) (Nat.le_of_ble_eq_true rfl) rfl dX5_release_205 ?_
                          refine g_goto hX (pc := 208) (tgt := 154) dX5_release_208 (by decide) ?_
                          obtain rfl := Option.some.inj h
                          exact ihl39 (s37 + (-1)) r45 hwl39
                        · replace h := ifN c42 h
                          obtain rfl := Option.some.inj h
                          exact Kl39 ((s37, I38)) hwl39
                      · replace h := ifN c40 h
                        obtain rfl := Option.some.inj h
                        exact Kl39 ((s37, I38)) hwl39
                  exact Ll39 kl39 s32 I34 hkl39
            exact Ll35 kl35 v28 r31 I30 hkl35
          · replace h := ifN c26 h
            obtain rfl := Option.some.inj h
            exact Kl25 ((s23, I24)) hwl25
      exact Ll25 kl25 0 ql8.2 hkl25
    obtain ⟨kl8, hkl8⟩ := lp_ex hpl8
    clear hpl8 h
    have Ll8 : ∀ k : Nat, ∀ (s6 : Int32) (I7 : MI), lpN k (b_X5_release_27 o0 r2) ((s6, I7)) = some p22 → GW E X (QX E X 0 0 (some (.int rr)) z J Iz) 6 27 [(0, .ref o0), (1, .int r2), (2, .int s6)] [] z J I7 0 0 := by
      intro k
      induction k with
      | zero => intro s6 I7 h; cases h
      | succ k ihl8 =>
        intro s6 I7 h
        obtain ⟨wl8, h, hwl8⟩ := lpN_s h
        unfold b_X5_release_27 at h
        try dsimp only at h
        refine g_iload_n hX (pc := 27) (i := 2) dX5_release_27 rfl 2 rfl ?_
        refine g_aload_n hX (pc := 28) (i := 0) dX5_release_28 rfl 0 rfl ?_
        refine gf5_14 hX (pc := 29) ho0 fl_X5_17 dX5_release_29 ?_
        refine g_iconst hX (pc := 32) (v := 0) dX5_release_32 (by decide) ?_
        obtain ⟨v9, e_v9, h⟩ := bnd h
        refine g_ialoadE hX (pc := 33) (s5_14 ho0).1 (s5_14 ho0).2.1 (s5_14 ho0).2.2.1 e_v9 dX5_release_33 ?_
        refine g_icmp_ge hX (pc := 34) dX5_release_34 (tgt := 105) (by decide) (fun c10 => ?_) (fun c10 => ?_)
        · replace h := ifP c10 h
          refine g_iload_n hX (pc := 37) (i := 1) dX5_release_37 rfl 1 rfl ?_
          refine g_iload_n hX (pc := 38) (i := 2) dX5_release_38 rfl 2 rfl ?_
          refine g_ishr hX (pc := 39) dX5_release_39 ?_
          refine g_iconst hX (pc := 40) (v := 1) dX5_release_40 (by decide) ?_
          refine g_iand hX (pc := 41) dX5_release_41 ?_
          obtain ⟨p21, hpj12, h⟩ := bnd h
          have Kj12 : ∀ qj12 : MI, qj12 = p21 → GW E X (QX E X 0 0 (some (.int rr)) z J Iz) 6 99 [(0, .ref o0), (1, .int r2), (2, .int s6)] [] z J qj12 0 0 := by
            intro qj12 hqj12
            subst hqj12
            refine g_iinc hX (pc := 99) (i := 2) (v := s6 + 1) (ls' := [(0, .ref o0), (1, .int r2), (2, .int (s6 + 1))]) 2 [1, 2, 0] dX5_release_99 rfl (by rfl) (by decide) rfl ?_
            refine g_goto hX (pc := 102) (tgt := 27) dX5_release_102 (by decide) ?_
            obtain rfl := Option.some.inj h
            exact ihl8 (s6 + 1) qj12 hwl8
          replace h := hpj12
          clear hpj12
          refine g_if_ne hX (pc := 42) dX5_release_42 (tgt := 48) (by decide) (fun c11 => ?_) (fun c11 => ?_)
          · replace h := ifP c11 h
            refine g_goto hX (pc := 45) (tgt := 99) dX5_release_45 (by decide) ?_
            exact Kj12 I7 (Option.some.inj h)
          · replace h := ifN c11 h
            refine g_aload_n hX (pc := 48) (i := 0) dX5_release_48 rfl 0 rfl ?_
            refine gf5_27 hX (pc := 49) ho0 fl_X5_48 dX5_release_49 ?_
            refine g_sipush hX (pc := 52) (v := 330) dX5_release_52 (by decide) ?_
            refine g_iload_n hX (pc := 55) (i := 2) dX5_release_55 rfl 2 rfl ?_
            refine g_iadd hX (pc := 56) dX5_release_56 ?_
            refine g_iconst hX (pc := 57) (v := 1) dX5_release_57 (by decide) ?_
            obtain ⟨I13, e_I13, h⟩ := bnd h
            refine g_iastoreE hX (pc := 58) (s5_27 ho0).1 (s5_27 ho0).2.1 (s5_27 ho0).2.2.1 e_I13 dX5_release_58 ?_
            refine g_iconst hX (pc := 59) (v := 0) dX5_release_59 (by decide) ?_
            refine g_istore_n hX (pc := 60) (i := 3) (ls' := [(0, .ref o0), (1, .int r2), (2, .int s6), (3, .int 0)]) [1, 2, 3, 0] dX5_release_60 rfl (by decide) rfl ?_
            obtain ⟨p20, hpl16, h⟩ := bnd h
            have Kl16 : ∀ ql16 : Int32 × MI, ql16 = p20 → GW E X (QX E X 0 0 (some (.int rr)) z J Iz) 6 99 [(0, .ref o0), (1, .int r2), (2, .int s6), (3, .int ql16.1)] [] z J ql16.2 0 0 := by
              intro ql16 hql16
              subst hql16
              refine g_sub (ls' := [(0, .ref o0), (1, .int r2), (2, .int s6)]) [0, 1, 2] rfl ?_
              exact Kj12 ql16.2 (Option.some.inj h)
            obtain ⟨kl16, hkl16⟩ := lp_ex hpl16
            clear hpl16 h
            have Ll16 : ∀ k : Nat, ∀ (s14 : Int32) (I15 : MI), lpN k (b_X5_release_61 o0 s6) ((s14, I15)) = some p20 → GW E X (QX E X 0 0 (some (.int rr)) z J Iz) 6 61 [(0, .ref o0), (1, .int r2), (2, .int s6), (3, .int s14)] [] z J I15 0 0 := by
              intro k
              induction k with
              | zero => intro s14 I15 h; cases h
              | succ k ihl16 =>
                intro s14 I15 h
                obtain ⟨wl16, h, hwl16⟩ := lpN_s h
                unfold b_X5_release_61 at h
                try dsimp only at h
                refine g_iload_n hX (pc := 61) (i := 3) dX5_release_61 rfl 3 rfl ?_
                refine g_bipush hX (pc := 62) (v := 10) dX5_release_62 (by decide) ?_
                refine g_icmp_ge hX (pc := 64) dX5_release_64 (tgt := 99) (by decide) (fun c17 => ?_) (fun c17 => ?_)
                · replace h := ifP c17 h
                  refine g_aload_n hX (pc := 67) (i := 0) dX5_release_67 rfl 0 rfl ?_
                  refine gf5_27 hX (pc := 68) ho0 fl_X5_48 dX5_release_68 ?_
                  refine g_sipush hX (pc := 71) (v := 170) dX5_release_71 (by decide) ?_
                  refine g_bipush hX (pc := 74) (v := 10) dX5_release_74 (by decide) ?_
                  refine g_iload_n hX (pc := 76) (i := 2) dX5_release_76 rfl 2 rfl ?_
                  refine g_imul hX (pc := 77) dX5_release_77 ?_
                  refine g_iadd hX (pc := 78) dX5_release_78 ?_
                  refine g_iload_n hX (pc := 79) (i := 3) dX5_release_79 rfl 3 rfl ?_
                  refine g_iadd hX (pc := 80) dX5_release_80 ?_
                  refine g_aload_n hX (pc := 81) (i := 0) dX5_release_81 rfl 0 rfl ?_
                  refine gf5_23 hX (pc := 82) ho0 fl_X5_45 dX5_release_82 ?_
                  refine g_bipush hX (pc := 85) (v := 10) dX5_release_85 (by decide) ?_
                  refine g_iload_n hX (pc := 87) (i := 2) dX5_release_87 rfl 2 rfl ?_
                  refine g_imul hX (pc := 88) dX5_release_88 ?_
                  refine g_iload_n hX (pc := 89) (i := 3) dX5_release_89 rfl 3 rfl ?_
                  refine g_iadd hX (pc := 90) dX5_release_90 ?_
                  obtain ⟨v18, e_v18, h⟩ := bnd h
                  refine g_ialoadE hX (pc := 91) (s5_23 ho0).1 (s5_23 ho0).2.1 (s5_23 ho0).2.2.1 e_v18 dX5_release_91 ?_
                  obtain ⟨I19, e_I19, h⟩ := bnd h
                  refine g_iastoreE hX (pc := 92) (s5_27 ho0).1 (s5_27 ho0).2.1 (s5_27 ho0).2.2.1 e_I19 dX5_release_92 ?_
                  refine g_iinc hX (pc := 93) (i := 3) (v := s14 + 1) (ls' := [(0, .ref o0), (1, .int r2), (2, .int s6), (3, .int (s14 + 1))]) 3 [1, 2, 3, 0] dX5_release_93 rfl (by rfl) (by decide) rfl ?_
                  refine g_goto hX (pc := 96) (tgt := 61) dX5_release_96 (by decide) ?_
                  obtain rfl := Option.some.inj h
                  exact ihl16 (s14 + 1) I19 hwl16
                · replace h := ifN c17 h
                  obtain rfl := Option.some.inj h
                  exact Kl16 ((s14, I15)) hwl16
            exact Ll16 kl16 0 I13 hkl16
        · replace h := ifN c10 h
          obtain rfl := Option.some.inj h
          exact Kl8 ((s6, I7)) hwl8
    exact Ll8 kl8 0 r5 hkl8
