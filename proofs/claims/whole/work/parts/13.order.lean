noncomputable def f_X4_order (o0 t0 u0 : Nat) (x1 : Int32) (x2 : Int32) (I : MI) : Option (Int32) :=
  (f_X3_isOrder t0 x1 I).bind fun r1 =>
  if r1 = 0 then
    none
  else
    if x2 = 0 then
      (rd 16 (I (t0 + 5)) x1).bind fun v4 =>
      some v4
    else
      if x2 = 1 then
        (rd 16 (I (t0 + 7)) x1).bind fun v6 =>
        some v6
      else
        if x2 = 2 then
          (f_X4_sumOfOrder (o0 + 24 + 5) 160 x1 I).bind fun r8 =>
          some r8
        else
          if x2 = 3 then
            (f_X4_sumOfOrder (o0 + 24 + 6) 160 x1 I).bind fun r10 =>
            some r10
          else
            if x2 = 4 then
              (rd 16 (I (o0 + 24 + 2)) x1).bind fun v12 =>
              some v12
            else
              if x2 = 5 then
                (rd 16 (I (o0 + 24 + 3)) x1).bind fun v14 =>
                some v14
              else
                none
theorem nm_X4_order : yX4_order.cls ≠ "java/lang/invoke/MethodHandle" ∧ yX4_order.cls ≠ "java/lang/invoke/VarHandle" ∧ (parseMethodDescriptor yX4_order.desc).map (fun d => d.parameters.length) = some 2 := by decide +kernel
set_option maxRecDepth 100000 in
set_option maxHeartbeats 4000000 in
theorem ct_X4_order {E : Ev} {d : Nat} {z : Sh} {J : MJ} {I : MI} {o0 t0 u0 : Nat} {x1 : Int32} {x2 : Int32} {rr : Int32} (ho0 : oX4 z o0 t0 u0) (h : f_X4_order o0 t0 u0 x1 x2 I = some rr) : Ct E (d + 2) yX4_order cX4_order 3 (some .int) 0 0 [.ref o0, .int x1, .int x2] z J I (some (.int rr)) z J I := by
  unfold f_X4_order at h
  refine Ct.of (own := RX4) (ls := [(0, .ref o0), (1, .int x1), (2, .int x2)]) (by decide) rfl (Nat.le_of_ble_eq_true rfl) rfl ?_
  intro X hr0 hnm hX
  refine g_aload_n hX (pc := 0) (i := 0) dX4_order_0 rfl 0 rfl ?_
  refine gf4_3 hX (pc := 1) ho0 fl_X4_27 dX4_order_1 ?_
  refine g_iload_n hX (pc := 4) (i := 1) dX4_order_4 rfl 1 rfl ?_
  obtain ⟨r1, e_r1, h⟩ := bnd h
  refine g_callVi hX (pc := 5) (d := d + 1) hr0 [.int x1] (c := 3) (ct_X3_isOrder (d := d + 1) (s4_3 ho0).1 e_r1) (s4_3 ho0).1.1.1 (s4_3 ho0).1.1.2 (by decide) rfl co_X3_isOrder ml_X4_98 im_X3_isOrder sl_X3_isOrder ini_X3 nm_X3_isOrder (by decide) ⟨Nat.le_refl _, Nat.le_refl _⟩ (Nat.le_refl _) (Nat.le_of_ble_eq_true rfl) rfl dX4_order_5 ?_
  refine g_if_ne hX (pc := 8) dX4_order_8 (tgt := 21) (by decide) (fun c2 => ?_) (fun c2 => ?_)
  · replace h := ifP c2 h
    cases h
  · replace h := ifN c2 h
    refine g_iload_n hX (pc := 21) (i := 2) dX4_order_21 rfl 2 rfl ?_
    by_cases c3 : x2 = 0
    · replace h := ifP c3 h
      refine g_tableIn hX (pc := 22) (tgt := 60) (off := 38) dX4_order_22 (by rw [c3]; decide) (by rw [c3]; decide) (by rw [c3]; rfl) (by decide) ?_
      refine g_aload_n hX (pc := 60) (i := 0) dX4_order_60 rfl 0 rfl ?_
      refine gf4_3 hX (pc := 61) ho0 fl_X4_27 dX4_order_61 ?_
      refine gf3_12 hX (pc := 64) (s4_3 ho0).1 fl_X4_108 dX4_order_64 ?_
      refine g_iload_n hX (pc := 67) (i := 1) dX4_order_67 rfl 1 rfl ?_
      obtain ⟨v4, e_v4, h⟩ := bnd h
      refine g_ialoadE hX (pc := 68) (s3_12 (s4_3 ho0).1).1 (s3_12 (s4_3 ho0).1).2.1 (s3_12 (s4_3 ho0).1).2.2.1 e_v4 dX4_order_68 ?_
      obtain rfl := Option.some.inj h
      exact g_ireturn hX (Nat.le_refl _) (Nat.le_refl _) dX4_order_69
    · replace h := ifN c3 h
      by_cases c5 : x2 = 1
      · replace h := ifP c5 h
        refine g_tableIn hX (pc := 22) (tgt := 70) (off := 48) dX4_order_22 (by rw [c5]; decide) (by rw [c5]; decide) (by rw [c5]; rfl) (by decide) ?_
        refine g_aload_n hX (pc := 70) (i := 0) dX4_order_70 rfl 0 rfl ?_
        refine gf4_3 hX (pc := 71) ho0 fl_X4_27 dX4_order_71 ?_
        refine gf3_14 hX (pc := 74) (s4_3 ho0).1 fl_X4_111 dX4_order_74 ?_
        refine g_iload_n hX (pc := 77) (i := 1) dX4_order_77 rfl 1 rfl ?_
        obtain ⟨v6, e_v6, h⟩ := bnd h
        refine g_ialoadE hX (pc := 78) (s3_14 (s4_3 ho0).1).1 (s3_14 (s4_3 ho0).1).2.1 (s3_14 (s4_3 ho0).1).2.2.1 e_v6 dX4_order_78 ?_
        obtain rfl := Option.some.inj h
        exact g_ireturn hX (Nat.le_refl _) (Nat.le_refl _) dX4_order_79
      · replace h := ifN c5 h
        by_cases c7 : x2 = 2
        · replace h := ifP c7 h
          refine g_tableIn hX (pc := 22) (tgt := 80) (off := 58) dX4_order_22 (by rw [c7]; decide) (by rw [c7]; decide) (by rw [c7]; rfl) (by decide) ?_
          refine g_aload_n hX (pc := 80) (i := 0) dX4_order_80 rfl 0 rfl ?_
          refine gf4_5 hX (pc := 81) ho0 fl_X4_37 dX4_order_81 ?_
          refine gf0_4 hX (pc := 84) (s4_5 ho0).1 fl_X4_114 dX4_order_84 ?_
          refine g_iload_n hX (pc := 87) (i := 1) dX4_order_87 rfl 1 rfl ?_
          obtain ⟨r8, e_r8, h⟩ := bnd h
          refine g_callSi hX (pc := 88) (d := d + 1) hr0 [.ref (o0 + 24 + 5), .int x1] (ct_X4_sumOfOrder (d := d + 0) ⟨(s0_4 (s4_5 ho0).1).1, (s0_4 (s4_5 ho0).1).2.1, (s0_4 (s4_5 ho0).1).2.2.1⟩ e_r8) co_X4_sumOfOrder ml_X4_117 sta_X4_sumOfOrder ini_X4 nm_X4_sumOfOrder (by decide) ⟨Nat.le_refl _, Nat.le_refl _⟩ (Nat.le_refl _) (Nat.le_of_ble_eq_true rfl) rfl dX4_order_88 ?_
          obtain rfl := Option.some.inj h
          exact g_ireturn hX (Nat.le_refl _) (Nat.le_refl _) dX4_order_91
        · replace h := ifN c7 h
          by_cases c9 : x2 = 3
          · replace h := ifP c9 h
            refine g_tableIn hX (pc := 22) (tgt := 92) (off := 70) dX4_order_22 (by rw [c9]; decide) (by rw [c9]; decide) (by rw [c9]; rfl) (by decide) ?_
            refine g_aload_n hX (pc := 92) (i := 0) dX4_order_92 rfl 0 rfl ?_
            refine gf4_5 hX (pc := 93) ho0 fl_X4_37 dX4_order_93 ?_
            refine gf0_5 hX (pc := 96) (s4_5 ho0).1 fl_X4_121 dX4_order_96 ?_
            refine g_iload_n hX (pc := 99) (i := 1) dX4_order_99 rfl 1 rfl ?_
            obtain ⟨r10, e_r10, h⟩ := bnd h
            refine g_callSi hX (pc := 100) (d := d + 1) hr0 [.ref (o0 + 24 + 6), .int x1] (ct_X4_sumOfOrder (d := d + 0) ⟨(s0_5 (s4_5 ho0).1).1, (s0_5 (s4_5 ho0).1).2.1, (s0_5 (s4_5 ho0).1).2.2.1⟩ e_r10) co_X4_sumOfOrder ml_X4_117 sta_X4_sumOfOrder ini_X4 nm_X4_sumOfOrder (by decide) ⟨Nat.le_refl _, Nat.le_refl _⟩ (Nat.le_refl _) (Nat.le_of_ble_eq_true rfl) rfl dX4_order_100 ?_
            obtain rfl := Option.some.inj h
            exact g_ireturn hX (Nat.le_refl _) (Nat.le_refl _) dX4_order_103
          · replace h := ifN c9 h
            by_cases c11 : x2 = 4
            · replace h := ifP c11 h
              refine g_tableIn hX (pc := 22) (tgt := 104) (off := 82) dX4_order_22 (by rw [c11]; decide) (by rw [c11]; decide) (by rw [c11]; rfl) (by decide) ?_
              refine g_aload_n hX (pc := 104) (i := 0) dX4_order_104 rfl 0 rfl ?_
              refine gf4_5 hX (pc := 105) ho0 fl_X4_37 dX4_order_105 ?_
              refine gf0_1 hX (pc := 108) (s4_5 ho0).1 fl_X4_124 dX4_order_108 ?_
              refine g_iload_n hX (pc := 111) (i := 1) dX4_order_111 rfl 1 rfl ?_
              obtain ⟨v12, e_v12, h⟩ := bnd h
              refine g_ialoadE hX (pc := 112) (s0_1 (s4_5 ho0).1).1 (s0_1 (s4_5 ho0).1).2.1 (s0_1 (s4_5 ho0).1).2.2.1 e_v12 dX4_order_112 ?_
              obtain rfl := Option.some.inj h
              exact g_ireturn hX (Nat.le_refl _) (Nat.le_refl _) dX4_order_113
            · replace h := ifN c11 h
              by_cases c13 : x2 = 5
              · replace h := ifP c13 h
                refine g_tableIn hX (pc := 22) (tgt := 114) (off := 92) dX4_order_22 (by rw [c13]; decide) (by rw [c13]; decide) (by rw [c13]; rfl) (by decide) ?_
                refine g_aload_n hX (pc := 114) (i := 0) dX4_order_114 rfl 0 rfl ?_
                refine gf4_5 hX (pc := 115) ho0 fl_X4_37 dX4_order_115 ?_
                refine gf0_2 hX (pc := 118) (s4_5 ho0).1 fl_X4_127 dX4_order_118 ?_
                refine g_iload_n hX (pc := 121) (i := 1) dX4_order_121 rfl 1 rfl ?_
                obtain ⟨v14, e_v14, h⟩ := bnd h
                refine g_ialoadE hX (pc := 122) (s0_2 (s4_5 ho0).1).1 (s0_2 (s4_5 ho0).1).2.1 (s0_2 (s4_5 ho0).1).2.2.1 e_v14 dX4_order_122 ?_
                obtain rfl := Option.some.inj h
                exact g_ireturn hX (Nat.le_refl _) (Nat.le_refl _) dX4_order_123
              · replace h := ifN c13 h
                refine g_tableOut hX (pc := 22) (tgt := 124) dX4_order_22 (by have q0 := lv_neT c3 (show (0 : Int32).toInt = 0 by decide); have q1 := lv_neT c5 (show (1 : Int32).toInt = 1 by decide); have q2 := lv_neT c7 (show (2 : Int32).toInt = 2 by decide); have q3 := lv_neT c9 (show (3 : Int32).toInt = 3 by decide); have q4 := lv_neT c11 (show (4 : Int32).toInt = 4 by decide); have q5 := lv_neT c13 (show (5 : Int32).toInt = 5 by decide); omega) (by decide) ?_
                cases h

/-! order's exception; the law's helper that catches it -/
def hhL : List (Nat × Nat × Nat × Nat) := [(0, 10, 13, 13)]
theorem cw_L_order : (.codeWith yL_order cL_order 5 (some .int) hhL : Cond) ∈ wU := inU (inT (List.mem_append_right _ (List.mem_append_right _ (List.mem_append_right _ (List.mem_append_left _ (List.mem_of_getElem? (i := 20) (by decide +kernel))))))) rfl
def zGr (z : Sh) (k : Nat) : Sh := (zs z + k, zL z, zK z, zn z, zR z)
theorem cE_gr {cy : Nat → ClassId} {z : Sh} {J : MJ} {I : MI} {k b : Nat} : cE cy (zGr z k) J I b = cE cy z J I b := cE_congr rfl rfl rfl rfl rfl
theorem Rel.grow {E : Ev} {z : Sh} {J : MJ} {I : MI} {H H1 : Heap} (h : Rel E z J I H) (hz : H.size ≤ H1.size) (o1 : ∀ q : Nat, q < H.size → H1[q]? = H[q]?) : ∃ k, Rel E (zGr z k) J I H1 := by
  have h1 := h.1
  have h2 := h.2.1
  refine ⟨H1.size - H.size, ?_, ?_, fun q hq => ?_, fun b hb => ⟨(h.2.2.2 b hb).1, ?_⟩⟩
  · show H1.size = zs z + (H1.size - H.size)
    omega
  · show eB E ≤ zs z + (H1.size - H.size)
    omega
  · rw [o1 q (by omega)]
    exact h.2.2.1 q hq
  · rw [cE_gr]
    exact (h.2.2.2 b hb).2.kept (o1 b (by rw [h1]; exact h.lt hb))
/-- it throws: what holds then -/
def XCo (E : Ev) (z : Sh) (J : MJ) (I : MI) : String → State → State → Prop := fun C _ t => C = "java/util/NoSuchElementException" ∧ ∃ k, Rel E (zGr z k) J I t.heap
theorem CtX.of {E : Ev} {d : Nat} {y : MethodName} {mc ms : Nat} {as : List Value} {z : Sh} {J : MJ} {I : MI} {Q0 : Array Value → State → Outcome → State → Prop} {XC : String → State → State → Prop} {cc : ByteArray} {n : Nat} {ret : Option FieldType} {own : String} {ls : List (Nat × Value)}
    (hy : plainName y.cls = true) (ho : y.cls = own) (hl : (lg_sl as).length ≤ n) (hls : lv_args 0 as = ls)
    (body : ∀ X : Xt, RmOk X d mc ms → Cx E X cc n ret own → (∀ x ∈ (xC X).exceptionTable.toList, False) → GW E X (vx_MQ (xB X) Q0 XC (xA X) (xS X) mc ms (aB E)) n 0 ls [] z J I 0 0) : vx_Met E.1 y (mW y cc n ret) (rmD d mc ms) (va_Pc as (fun U => Rel E z J I U.heap ∧ Kw E U)) Q0 XC mc ms (aB E) := by
  refine vx_ofW (cc := cc) (maxL := n) (ret := ret) hy rfl ?_
  intro p e s m args below meth c s₁ B hml hex hv
  obtain ⟨rfl, hR, hK⟩ := hv
  subst hls
  have hown : s.vm.findClass own = some m.cls := by rw [← ho]; exact findClass_of_methodNamed B.named
  have hts := atoms_spec (ws := mW y cc n ret) B.pre
  have hb := body (p, e, (headSpec (mW y cc n ret) (rmD d mc ms)).room, s, m, as.toArray, below, meth, c) ⟨Nat.le_refl _, Nat.le_refl _, Nat.le_refl _, Nat.le_refl _⟩ ⟨B.exec, B.bytes, hml, B.returns, B.notSynchronized, hown, fun w h => hts w (List.mem_cons_of_mem _ h), hK, by rw [hR.1]; exact hR.2.1, hR.2.2.1⟩ hex
  rw [lg_entry_eq]
  exact hb s.heap [] _ hR va_S.rf (lv_entry as hl)
abbrev mWH (y : MethodName) (cc : ByteArray) (n : Nat) (ret : Option FieldType) (hh : List (Nat × Nat × Nat × Nat)) : List Cond := Cond.codeWith y cc n ret hh :: wU
theorem CtH.of {E : Ev} {d : Nat} {y : MethodName} {mc ms : Nat} {as : List Value} {z : Sh} {J : MJ} {I : MI} {Q0 : Array Value → State → Outcome → State → Prop} {XC : String → State → State → Prop} {cc : ByteArray} {n : Nat} {ret : Option FieldType} {own : String} {ls : List (Nat × Value)} {hh : List (Nat × Nat × Nat × Nat)}
    (hy : plainName y.cls = true) (ho : y.cls = own) (hl : (lg_sl as).length ≤ n) (hls : lv_args 0 as = ls)
    (body : ∀ X : Xt, RmOk X d mc ms → Cx E X cc n ret own → (xC X).exceptionTable.toList = tableOf hh → GW E X (vx_MQ (xB X) Q0 XC (xA X) (xS X) mc ms (aB E)) n 0 ls [] z J I 0 0) : vx_Met E.1 y (mWH y cc n ret hh) (rmD d mc ms) (va_Pc as (fun U => Rel E z J I U.heap ∧ Kw E U)) Q0 XC mc ms (aB E) := by
  refine vx_ofWH (cc := cc) (maxL := n) (ret := ret) (hh := hh) hy rfl ?_
  intro p e s m args below meth c s₁ B hml hv
  obtain ⟨rfl, hR, hK⟩ := hv
  subst hls
  have hown : s.vm.findClass own = some m.cls := by rw [← ho]; exact findClass_of_methodNamed B.named
  have hts := atoms_spec (ws := mWH y cc n ret hh) B.pre
  have htab : c.exceptionTable.toList = tableOf hh := vx_table (x := y) B (hts _ List.mem_cons_self)
  have hb := body (p, e, (headSpec (mWH y cc n ret hh) (rmD d mc ms)).room, s, m, as.toArray, below, meth, c) ⟨Nat.le_refl _, Nat.le_refl _, Nat.le_refl _, Nat.le_refl _⟩ ⟨B.exec, B.bytes, hml, B.returns, B.notSynchronized, hown, fun w h => hts w (List.mem_cons_of_mem _ h), hK, by rw [hR.1]; exact hR.2.1, hR.2.2.1⟩ htab
  rw [lg_entry_eq]
  exact hb s.heap [] _ hR va_S.rf (lv_entry as hl)
section Ord
variable {E : Ev} {X : Xt} {Q : State → Prop} {n : Nat} {pc index d MC MS : Nat} {ls : List (Nat × Value)} {st : List Value} {z : Sh} {J : MJ} {I : MI} {uc us : Nat} {cc : ByteArray} {ret : Option FieldType} {own : String} {ad av : Nat → Nat}
theorem at_good0 : ∀ w ∈ xoAt.filter goodWord, w ∈ lw_tbl := by decide +kernel
theorem at_good : ∀ w ∈ xoAt.filter goodWord, w ∈ wU := fun w h => inU (at_good0 w h) (List.mem_filter.mp h).2
theorem g_throw {mc ms : Nat} {tx : String} {ik is i : Nat} {Q0 : Array Value → State → Outcome → State → Prop} (hE : EvOk E ad av) (hX : Cx E X cX4_order 3 (some .int) RX4) (hr0 : RmOk X (d + 7) mc ms) (hq : (RX4, is, tx, i) ∈ strL) (hk : Cond.classLink RX4 ik "java/util/NoSuchElementException" ∈ wU) (hex : ∀ x ∈ (xC X).exceptionTable.toList, False) (hcat : (st.map fun v => v.category).sum ≤ 8)
    (d0 : decode cX4_order pc = .ok (.new ik, 3)) (d3 : decode cX4_order (pc + 3) = .ok (.dup, 1)) (d4 : decode cX4_order (pc + 4) = .ok (.ldc is, 2)) (d6 : decode cX4_order (pc + 6) = .ok (.invokespecial 105, 3)) (d9 : decode cX4_order (pc + 9) = .ok (.athrow, 1)) (hu : uc + 1 ≤ mc ∧ us + 6 ≤ ms) :
    GW E X (vx_MQ (xB X) Q0 (XCo E z J I) (xA X) (xS X) mc ms (aB E)) 3 pc ls st z J I uc us := by
  intro H locs lsA hR hS hl
  have hw := hE.2 _ hX.kw.2.2.1
  have hq2 := hE.hq hX
  have h1 := hr0.1
  have h2 := hr0.2.1
  refine xo_makeS (cls := "java/util/NoSuchElementException") (text := tx) (sa := ad i) (A := aB E) (ic := 105) hX.ex hX.cd hE.1.2 hX.ow (by decide) (hX.ht _ hk) (hX.ht _ ini_java_util_NoSuchElementException) (hw.2.1 _ hq) ?_ ?_ (hw.2.2.2.2.2.1.kept hq2) (hw.2.2.2.2.2.2.1.kept hq2) hS (hl.1.trans hX.ml.symm) d0 d3 d4 d6 (by omega) (by omega) (Nat.le_trans hu.1 hr0.2.2.1) (Nat.le_trans hu.2 hr0.2.2.2) (fun q H1 ce hz ho hce hcv hcl => ?_)
  · exact vx_hat (B := xW) (fun w h => hX.ht _ (at_good w h)) (fun w h => h) (fun w h => va_Nw.use ((show ∀ w ∈ xW, w.onTables = true by decide +kernel) w h) (hw.2.2.2.2.2.2.2.1 w h))
  · intro w h
    rcases List.mem_cons.mp h with rfl | h
    · rfl
    · exact (show ∀ w ∈ Cond.initialized "java/util/NoSuchElementException" :: xoAt, vx_ot w = true by decide +kernel) w h
  · refine xo_athrow hX.ex hX.cd d9 ?_
    exact vx_out (fun x hx => (hex x hx).elim) hX.lk hce hcv hcl (fun t ht _ => ⟨rfl, by rw [ht]; exact hR.grow hz ho⟩) hS.2.2 hu.1 hu.2
end Ord
/-- when order throws -/
def Thr (t0 : Nat) (x1 x2 : Int32) (I : MI) : Prop := f_X3_isOrder t0 x1 I = some 0 ∨ ((∃ r, f_X3_isOrder t0 x1 I = some r ∧ ¬ r = 0) ∧ (x2.toInt < 0 ∨ 5 < x2.toInt))
set_option maxRecDepth 100000 in
set_option maxHeartbeats 4000000 in
theorem cx_X4_order {E : Ev} {d : Nat} {z : Sh} {J : MJ} {I : MI} {o0 t0 u0 : Nat} {x1 x2 : Int32} {ad av : Nat → Nat} (hE : EvOk E ad av) (ho0 : oX4 z o0 t0 u0) (h : Thr t0 x1 x2 I) : vx_Met E.1 yX4_order (mW yX4_order cX4_order 3 (some .int)) (rmD (d + 7) 1 6) (va_Pc [.ref o0, .int x1, .int x2] (fun U => Rel E z J I U.heap ∧ Kw E U)) (fun _ _ _ _ => False) (XCo E z J I) 1 6 (aB E) := by
  refine CtX.of (own := RX4) (ls := [(0, .ref o0), (1, .int x1), (2, .int x2)]) (by decide) rfl (Nat.le_of_ble_eq_true rfl) rfl ?_
  intro X hr0 hX hex
  refine g_aload_n hX (pc := 0) (i := 0) dX4_order_0 rfl 0 rfl ?_
  refine gf4_3 hX (pc := 1) ho0 fl_X4_27 dX4_order_1 ?_
  refine g_iload_n hX (pc := 4) (i := 1) dX4_order_4 rfl 1 rfl ?_
  have hc : ∀ r, f_X3_isOrder t0 x1 I = some r → GW E X (vx_MQ (xB X) (fun _ _ _ _ => False) (XCo E z J I) (xA X) (xS X) 1 6 (aB E)) 3 8 [(0, .ref o0), (1, .int x1), (2, .int x2)] [.int r] z J I 0 0 → GW E X (vx_MQ (xB X) (fun _ _ _ _ => False) (XCo E z J I) (xA X) (xS X) 1 6 (aB E)) 3 5 [(0, .ref o0), (1, .int x1), (2, .int x2)] [.int x1, .ref t0] z J I 0 0 := by
    intro r hr k
    exact g_callVi hX (pc := 5) (d := d + 6) hr0 [.int x1] (c := 3) (ct_X3_isOrder (d := d + 6) (s4_3 ho0).1 hr) (s4_3 ho0).1.1.1 (s4_3 ho0).1.1.2 (by decide) rfl co_X3_isOrder ml_X4_98 im_X3_isOrder sl_X3_isOrder ini_X3 nm_X3_isOrder (by decide) (by decide) (Nat.le_refl _) (Nat.le_of_ble_eq_true rfl) rfl dX4_order_5 k
  rcases h with h | ⟨⟨r, hr, hr0'⟩, hx⟩
  · refine hc 0 h ?_
    refine g_if_ne hX (pc := 8) dX4_order_8 (tgt := 21) (by decide) (fun c => ?_) (fun c => absurd rfl c)
    exact g_throw hE hX hr0 (tx := "no such order") (i := 4) (by decide) cl_X4_101 hex (Nat.le_of_ble_eq_true rfl) dX4_order_11 dX4_order_14 dX4_order_15 dX4_order_17 dX4_order_20 (by decide)
  · refine hc r hr ?_
    refine g_if_ne hX (pc := 8) dX4_order_8 (tgt := 21) (by decide) (fun c => absurd c hr0') (fun c => ?_)
    refine g_iload_n hX (pc := 21) (i := 2) dX4_order_21 rfl 2 rfl ?_
    refine g_tableOut hX (pc := 22) (tgt := 124) dX4_order_22 hx (by decide) ?_
    exact g_throw hE hX hr0 (tx := "no such what") (i := 5) (by decide) cl_X4_101 hex (Nat.le_of_ble_eq_true rfl) dX4_order_124 dX4_order_127 dX4_order_128 dX4_order_130 dX4_order_133 (by decide)
theorem nm_L_order : yL_order.cls ≠ "java/lang/invoke/MethodHandle" ∧ yL_order.cls ≠ "java/lang/invoke/VarHandle" ∧ (parseMethodDescriptor yL_order.desc).map (fun d => d.parameters.length) = some 4 := by decide +kernel
theorem g_retX {E : Ev} {X : Xt} {n pc : Nat} {ls : List (Nat × Value)} {st : List Value} {z : Sh} {J : MJ} {I : MI} {uc us mc ms : Nat} {Q0 : Array Value → State → Outcome → State → Prop} {XC : String → State → State → Prop} (k : GW E X (MQ (xB X) Q0 (xA X) (xS X) mc ms (aB E)) n pc ls st z J I uc us) : GW E X (vx_MQ (xB X) Q0 XC (xA X) (xS X) mc ms (aB E)) n pc ls st z J I uc us := fun H locs lsA hR hS hl => vx_ret (k H locs lsA hR hS hl)
theorem g_postX {E : Ev} {X : Xt} {n pc : Nat} {ls : List (Nat × Value)} {st : List Value} {z : Sh} {J : MJ} {I : MI} {uc us mc ms : Nat} {Q0 Q1 : Array Value → State → Outcome → State → Prop} (hQ : ∀ a s o t, Q0 a s o t → Q1 a s o t) (k : GW E X (MQ (xB X) Q0 (xA X) (xS X) mc ms (aB E)) n pc ls st z J I uc us) : GW E X (MQ (xB X) Q1 (xA X) (xS X) mc ms (aB E)) n pc ls st z J I uc us := by
  intro H locs lsA hR hS hl T hT Xs
  obtain ⟨t, a1, o, b1, b2, b3, b4⟩ := k H locs lsA hR hS hl T hT Xs
  exact ⟨t, a1, o, b1, b2, hQ _ _ _ _ b3, b4⟩
/-- order throws, and the frame that called it catches -/
theorem g_caught {E : Ev} {X : Xt} {Q : State → Prop} {n pc index d : Nat} {MC MS : Nat} {ls : List (Nat × Value)} {st stk : List Value} {z : Sh} {J : MJ} {I : MI} {uc us : Nat} {cc : ByteArray} {ret : Option FieldType} {own : String} {ad av : Nat → Nat} {o0 t0 u0 : Nat} {x1 x2 : Int32} (hE : EvOk E ad av) (hX : Cx E X cc n ret own) (hr0 : RmOk X (d + 8) MC MS) (ho0 : oX4 z o0 t0 u0) (h : Thr t0 x1 x2 I) (hml : Cond.methodLink own index yX4_order ∈ wU) (hu : uc + 1 ≤ MC ∧ us + 6 ≤ MS) (hcat : (st.map fun v => v.category).sum ≤ 8) (hstk : stk = .int x2 :: .int x1 :: .ref o0 :: st) (hd : decode cc pc = .ok (.invokevirtual index, 3))
    {ct hp : Nat} {en : ExceptionTableEntry} (htab : (xC X).exceptionTable.toList = [] ++ en :: []) (hcov : covers en pc = true) (hen : en.handlerPc = hp ∧ en.catchType = ct ∧ ct ≠ 0) (hlk : Cond.classLink own ct "java/util/NoSuchElementException" ∈ wU)
    (kk : ∀ (k q : Nat), GW E X Q n hp ls [.ref q] (zGr z k) J I (uc + 1) (us + 6)) : GW E X Q n pc ls stk z J I uc us := by
  intro H locs lsA hR hS hl
  have hw := hE.2 _ hX.kw.2.2.1
  intro T hT Xs
  have run := vx_runV (As := [.int x1, .int x2]) (rest := st) (C := RX4) (g := F0 (xM X) pc lsA stk) (e := X.2.1) (below := xB X) (meth := xH X) (locs := locs) (cells := uc) (slots := us) (p := X.1) (c := xC X) (H := H) ⟨hX.ex, hX.cd, hX.ml, hX.ow, hX.ht⟩ (cx_X4_order (d := d) (J := J) hE ho0 h) ⟨callB_of 2 hX.ht (good_mW co_X4_order) rfl rfl rfl (hX.ht _ ini_X4) (hX.ht _ hml) nm_X4_order (room_le (d := d + 7) hr0 (by decide)), hX.ht _ im_X4_order, hX.ht _ sl_X4_order⟩ ⟨Ct.blind, va_recv hX.kk (hR.one ho0.1.1 (cE_o ho0.1.2 (by decide))) (show vwCl[4]? = some (RX4, TX4, 13) from rfl) (q0 := 0) rfl, fun U hU hW => ⟨rfl, by rw [hU]; exact hR, hX.kw.warm hW⟩⟩ rfl rfl hl.1 hstk (lv_room hcat) hd ⟨Nat.le_trans hu.1 hr0.2.2.1, Nat.le_trans hu.2 hr0.2.2.2⟩
  rcases run T hT Xs with ⟨v, st0, t, T', L, h0, X', hL2, e1, e2, hf, go⟩ | ⟨q, st0, t, T', L, C, ce, h0, X', hL2, e1, e2, ⟨hC, k, hR1⟩, hce, hcv, hcl, go⟩
  · exact hf.elim
  · subst hC
    have hS1 := Rel.step (z' := zGr z k) (L := L) hX hR hS hR1 (Nat.le_add_right _ _) hL2
    have w1 : vx_W X.1 E.1 X.2.1 X.2.2.1 (xS X) (xM X) (xA X) (xB X) (xH X) (xC X) t.heap (locs ++ L) (uc + 1) (us + 6) Q (F0 (xM X) pc lsA st) q := by
      refine vx_catch (name := "java/util/NoSuchElementException") hX.ow [] en [] htab (fun z hz => by cases hz) hcov (by rw [hen.2.1]; exact hen.2.2) (by rw [hen.2.1]; exact hX.ht _ hlk) (va_Nw.use rfl hw.2.2.2.2.2.2.2.2) hce hcv hcl ?_
      rw [hen.1]
      exact kk k q t.heap (locs ++ L) lsA hR1 hS1 hl
    obtain ⟨t2, a1, b1⟩ := w1 T' e1 X'
    exact ⟨t2, go.trans a1, b1⟩
/-- the law's helper: what it answers -/
def QcL (E : Ev) (z : Sh) (J : MJ) (I : MI) (r : Option Int32) (o : Nat) : Array Value → State → Outcome → State → Prop := fun _ _ oc t => match r with
  | some v => oc = .returned (some (.int 0)) ∧ Rel E z (mst J o 0 v.toInt64) I t.heap
  | none => oc = .returned (some (.int 1)) ∧ ∃ k, Rel E (zGr z k) J I t.heap
set_option maxRecDepth 100000 in
set_option maxHeartbeats 4000000 in
theorem cl_order {E : Ev} {d : Nat} {z : Sh} {J : MJ} {I : MI} {o0 t0 u0 o3 : Nat} {x1 x2 : Int32} {ad av : Nat → Nat} (hE : EvOk E ad av) (ho0 : oX4 z o0 t0 u0) (ha : o3 ∈ zL z ∧ zK z o3 = 8 ∧ zn z o3 = 1) {r : Option Int32} (hr : ∀ v, r = some v → f_X4_order o0 t0 u0 x1 x2 I = some v) (hn : r = none → Thr t0 x1 x2 I) : vx_Met E.1 yL_order (mWH yL_order cL_order 5 (some .int) hhL) (rmD (d + 8) 1 6) (va_Pc [.ref o0, .int x1, .int x2, .ref o3] (fun U => Rel E z J I U.heap ∧ Kw E U)) (QcL E z J I r o3) (fun _ _ _ => False) 1 6 (aB E) := by
  refine CtH.of (own := RL) (ls := [(0, .ref o0), (1, .int x1), (2, .int x2), (3, .ref o3)]) (by decide) rfl (Nat.le_of_ble_eq_true rfl) rfl ?_
  intro X hr0 hX htab
  refine g_aload_n hX (pc := 0) (i := 3) dL_order_0 rfl 3 rfl ?_
  refine g_iconst hX (pc := 1) (v := 0) dL_order_1 (by decide) ?_
  refine g_aload_n hX (pc := 2) (i := 0) dL_order_2 rfl 0 rfl ?_
  refine g_iload_n hX (pc := 3) (i := 1) dL_order_3 rfl 1 rfl ?_
  refine g_iload_n hX (pc := 4) (i := 2) dL_order_4 rfl 2 rfl ?_
  cases r with
  | some v =>
    refine g_callVi hX (pc := 5) (d := d + 7) hr0 [.int x1, .int x2] (c := 4) (ct_X4_order (d := d + 5) ho0 (hr v rfl)) ho0.1.1 ho0.1.2 (by decide) rfl co_X4_order ml_L_7 im_X4_order sl_X4_order ini_X4 nm_X4_order (by decide) (by decide) (Nat.le_refl _) (Nat.le_of_ble_eq_true rfl) rfl dL_order_5 ?_
    refine g_i2l hX (pc := 8) dL_order_8 ?_
    refine g_lastore hX (pc := 9) ha.1 ha.2.1 ha.2.2 (vp_in_nI (n := 0) (by decide) (by decide)) dL_order_9 ?_
    refine g_goto hX (pc := 10) (tgt := 17) dL_order_10 (by decide) ?_
    refine g_iconst hX (pc := 17) (v := 0) dL_order_17 (by decide) ?_
    refine g_retX (g_postX (Q0 := Qc E (some (.int 0)) z (mst J o3 0 v.toInt64) I) (fun _ _ _ _ q => q) ?_)
    exact g_ireturn hX (by decide) (by decide) dL_order_18
  | none =>
    refine g_caught hE hX hr0 ho0 (hn rfl) ml_L_7 (by decide) (Nat.le_of_ble_eq_true rfl) rfl dL_order_5 (en := ⟨0, 10, 13, 13⟩) (ct := 13) (hp := 13) htab (by decide) ⟨rfl, rfl, by decide⟩ cl_L_13 (fun k q => ?_)
    refine g_astore hX (pc := 13) (ls' := [(0, .ref o0), (1, .int x1), (2, .int x2), (3, .ref o3), (4, .ref q)]) [1, 2, 3, 4, 0] dL_order_13 (by decide) rfl ?_
    refine g_iconst hX (pc := 15) (v := 1) dL_order_15 (by decide) ?_
    refine g_retX (g_postX (Q0 := Qc E (some (.int 1)) (zGr z k) J I) (fun _ _ _ _ q => ⟨q.1, k, q.2⟩) ?_)
    exact g_ireturn hX (by decide) (by decide) dL_order_16
