noncomputable def f_Lt_3 (m o L : Nat) (xs : Nat → Int32) (i kv : Int32) (z : Sh) (J : MJ) (I : MI) : Option (Sh × MJ × MI) :=
  (rd L xs (i + 1)).bind fun v1 =>
  (rd L xs (i + 2)).bind fun v2 =>
  (f_X5_order m v1 v2 J I).bind fun r3 =>
  (f_X5_thrown m J r3.2).bind fun r4 =>
  if r4 = kv then
    if kv = 0 then
      (rd 1 (J o) 0).bind fun v7 =>
      if v7 = r3.1.toInt64 then
        some ((z, J, r3.2))
      else
        none
    else
      some ((z, J, r3.2))
  else
    none
set_option maxRecDepth 100000 in
set_option maxHeartbeats 4000000 in
theorem lt_3 {E : Ev} {X : Xt} {Q : State → Prop} {b x m o L : Nat} {xs : Nat → Int32} {i : Int32} {z : Sh} {J : MJ} {I : MI} {uc us d : Nat} {kv : Int32} {zz : Sh} {Jz : MJ} {Iz : MI} (hX : Cx E X cL_law 7 (some .boolean) RL) (hr0 : RmOk X (d + 41) 601024 7293034) (hu : uc + 9 ≤ 601024 ∧ us + 2121 ≤ 7293034) (hsc : Scr E X b L xs) (hm : oX5 z m) (ho : o ∈ zL z ∧ zK z o = 8 ∧ zn z o = 1) (h : f_Lt_3 m o L xs i kv z J I = some (zz, Jz, Iz)) (K : GW E X Q 7 982 [(0, .ref b), (1, .ref x), (2, .ref m), (3, .ref o), (4, .int i)] [] zz Jz Iz (uc + 9) (us + 2121)) : GW E X Q 7 316 [(0, .ref b), (1, .ref x), (2, .ref m), (3, .ref o), (4, .int i)] [.int kv] z J I uc us := by
  unfold f_Lt_3 at h
  have KZ : ∀ q : Sh × MJ × MI, q = (zz, Jz, Iz) → GW E X Q 7 982 [(0, .ref b), (1, .ref x), (2, .ref m), (3, .ref o), (4, .int i)] [] q.1 q.2.1 q.2.2 (uc + 9) (us + 2121) := by intro q hq; subst hq; exact K
  refine g_istore hX (pc := 316) (ls' := [(0, .ref b), (1, .ref x), (2, .ref m), (3, .ref o), (4, .int i), (5, .int kv)]) [1, 2, 3, 4, 5, 0] dL_law_316 (by decide) rfl ?_
  refine g_aload_n hX (pc := 318) (i := 2) dL_law_318 rfl 2 rfl ?_
  refine g_aload_n hX (pc := 319) (i := 0) dL_law_319 rfl 0 rfl ?_
  refine g_iload hX (pc := 320) dL_law_320 4 rfl ?_
  refine g_iconst hX (pc := 322) (v := 1) dL_law_322 (by decide) ?_
  refine g_iadd hX (pc := 323) dL_law_323 ?_
  obtain ⟨v1, e_v1, h⟩ := bnd h
  refine g_sldE hX (pc := 324) hsc e_v1 dL_law_324 ?_
  refine g_aload_n hX (pc := 325) (i := 0) dL_law_325 rfl 0 rfl ?_
  refine g_iload hX (pc := 326) dL_law_326 4 rfl ?_
  refine g_iconst hX (pc := 328) (v := 2) dL_law_328 (by decide) ?_
  refine g_iadd hX (pc := 329) dL_law_329 ?_
  obtain ⟨v2, e_v2, h⟩ := bnd h
  refine g_sldE hX (pc := 330) hsc e_v2 dL_law_330 ?_
  obtain ⟨r3, e_r3, h⟩ := bnd h
  refine g_callVi hX (pc := 331) (d := d + 40) hr0 [.int v1, .int v2] (c := 5) (ct_X5_order (d := d + 38) hm e_r3) hm.1.1 hm.1.2 (by decide) rfl co_X5_order ml_L_38 im_X5_order sl_X5_order ini_X5 nm_X5_order (by decide) (by omega) (Nat.le_refl _) (Nat.le_of_ble_eq_true rfl) rfl dL_law_331 ?_
  refine g_istore hX (pc := 334) (ls' := [(0, .ref b), (1, .ref x), (2, .ref m), (3, .ref o), (4, .int i), (5, .int kv), (6, .int r3.1)]) [1, 2, 3, 4, 5, 6, 0] dL_law_334 (by decide) rfl ?_
  refine g_aload_n hX (pc := 336) (i := 2) dL_law_336 rfl 2 rfl ?_
  obtain ⟨r4, e_r4, h⟩ := bnd h
  refine g_callVi hX (pc := 337) (d := d + 40) hr0 [] (c := 5) (ct_X5_thrown (d := d + 40) hm e_r4) hm.1.1 hm.1.2 (by decide) rfl co_X5_thrown ml_L_39 im_X5_thrown sl_X5_thrown ini_X5 nm_X5_thrown (by decide) (by omega) (Nat.le_refl _) (Nat.le_of_ble_eq_true rfl) rfl dL_law_337 ?_
  refine g_iload hX (pc := 340) dL_law_340 5 rfl ?_
  refine g_icmp_eq hX (pc := 342) dL_law_342 (tgt := 347) (by decide) (fun c5 => ?_) (fun c5 => ?_)
  · replace h := ifP c5 h
    refine g_iload hX (pc := 347) dL_law_347 5 rfl ?_
    refine g_if_ne hX (pc := 349) dL_law_349 (tgt := 364) (by decide) (fun c6 => ?_) (fun c6 => ?_)
    · replace h := ifP c6 h
      refine g_aload_n hX (pc := 352) (i := 3) dL_law_352 rfl 3 rfl ?_
      refine g_iconst hX (pc := 353) (v := 0) dL_law_353 (by decide) ?_
      obtain ⟨v7, e_v7, h⟩ := bnd h
      refine g_laloadE hX (pc := 354) ho.1 ho.2.1 ho.2.2 e_v7 dL_law_354 ?_
      refine g_iload hX (pc := 355) dL_law_355 6 rfl ?_
      refine g_i2l hX (pc := 357) dL_law_357 ?_
      refine g_lcmp_eq hX (pc := 358) dL_law_358 dL_law_359 (tgt := 364) (by decide) (fun c8 => ?_) (fun c8 => ?_)
      · replace h := ifP c8 h
        refine g_goto hX (pc := 364) (tgt := 982) dL_law_364 (by decide) ?_
        refine g_sub (ls' := [(0, .ref b), (1, .ref x), (2, .ref m), (3, .ref o), (4, .int i)]) [0, 1, 2, 3, 4] rfl ?_
        refine g_widen (kc := uc + 9) (ks := us + 2121) (by omega) (by omega) ?_
        exact KZ ((z, J, r3.2)) (Option.some.inj h)
      · replace h := ifN c8 h
        refine g_iconst hX (pc := 362) (v := 0) dL_law_362 (by decide) ?_
        cases h
    · replace h := ifN c6 h
      refine g_goto hX (pc := 364) (tgt := 982) dL_law_364 (by decide) ?_
      refine g_sub (ls' := [(0, .ref b), (1, .ref x), (2, .ref m), (3, .ref o), (4, .int i)]) [0, 1, 2, 3, 4] rfl ?_
      refine g_widen (kc := uc + 9) (ks := us + 2121) (by omega) (by omega) ?_
      exact KZ ((z, J, r3.2)) (Option.some.inj h)
  · replace h := ifN c5 h
    refine g_iconst hX (pc := 345) (v := 0) dL_law_345 (by decide) ?_
    cases h
/-- the helper is asked -/
theorem g_callL {E : Ev} {X : Xt} {Q : State → Prop} {n pc d : Nat} {MC MS : Nat} {ls : List (Nat × Value)} {st : List Value} {z : Sh} {J : MJ} {I : MI} {uc us : Nat} {cc : ByteArray} {ret : Option FieldType} {ad av : Nat → Nat} {o0 t0 u0 o3 : Nat} {x1 x2 : Int32} (hE : EvOk E ad av) (hX : Cx E X cc n ret RL) (hr0 : RmOk X (d + 9) MC MS) (ho0 : oX4 z o0 t0 u0) (ha : o3 ∈ zL z ∧ zK z o3 = 8 ∧ zn z o3 = 1) {r : Option Int32} (hr : ∀ v, r = some v → f_X4_order o0 t0 u0 x1 x2 I = some v) (hn : r = none → Thr t0 x1 x2 I) (hu : uc + 1 ≤ MC ∧ us + 6 ≤ MS) (hcat : (st.map fun v => v.category).sum ≤ 8) (hd : decode cc pc = .ok (.invokestatic 33, 3))
    (kS : ∀ v, r = some v → GW E X Q n (pc + 3) ls (.int 0 :: st) z (mst J o3 0 v.toInt64) I (uc + 1) (us + 6)) (kN : r = none → ∀ k, GW E X Q n (pc + 3) ls (.int 1 :: st) (zGr z k) J I (uc + 1) (us + 6)) : GW E X Q n pc ls (.ref o3 :: .int x2 :: .int x1 :: .ref o0 :: st) z J I uc us := by
  intro H locs lsA hR hS hl
  intro T hT Xs
  have hG : GoodIn wU (va_wsS RL 33 yL_order (mWH yL_order cL_order 5 (some .int) hhL)) := by
    intro w hw
    unfold va_wsS at hw
    have hw2 : w ∈ wU := by
      simp only [List.mem_append, List.mem_cons, List.not_mem_nil, or_false] at hw
      rcases hw with (rfl | rfl | rfl) | (rfl | hw)
      · exact ml_L_33
      · exact sta_L_order
      · exact ini_L
      · exact cw_L_order
      · exact hw
    exact ⟨hw2, wU_good hw2⟩
  have run := vx_runSX (As := [.ref o0, .int x1, .int x2, .ref o3]) (rest := st) (g := F0 (xM X) pc lsA (.ref o3 :: .int x2 :: .int x1 :: .ref o0 :: st)) (e := X.2.1) (below := xB X) (meth := xH X) (locs := locs) (cells := uc) (slots := us) (p := X.1) (c := xC X) (H := H) ⟨hX.ex, hX.cd, hX.ml, hX.ow, hX.ht⟩ (cl_order (d := d) (J := J) hE ho0 ha hr hn) (vx_cwSW 4 hX.ht hG rfl rfl rfl nm_L_order (room_le (d := d + 8) hr0 (by decide))) ⟨Ct.blind, fun U hU hW => ⟨rfl, by rw [hU]; exact hR, hX.kw.warm hW⟩⟩ rfl rfl hl.1 rfl (lv_room hcat) hd ⟨Nat.le_trans hu.1 hr0.2.2.1, Nat.le_trans hu.2 hr0.2.2.2⟩
  rcases run T hT Xs with ⟨v, st0, t, T', L, h0, X', hL2, e1, e2, hq, go⟩ | ⟨q, st0, t, T', L, C, ce, h0, X', hL2, e1, e2, hf, hce, hcv, hcl, go⟩
  · cases r with
    | some w =>
      obtain ⟨hv, hR1⟩ := hq
      cases hv
      obtain ⟨t2, a1, b1⟩ := kS w rfl t.heap (locs ++ L) lsA hR1 (Rel.step hX hR hS hR1 (Nat.le_refl _) hL2) hl T' e1 X'
      exact ⟨t2, go t2 a1, b1⟩
    | none =>
      obtain ⟨hv, k, hR1⟩ := hq
      cases hv
      obtain ⟨t2, a1, b1⟩ := kN rfl k t.heap (locs ++ L) lsA hR1 (Rel.step hX hR hS hR1 (Nat.le_add_right _ _) hL2) hl T' e1 X'
      exact ⟨t2, go t2 a1, b1⟩
  · exact hf.elim
theorem oX5_gr {z : Sh} {a k : Nat} (h : oX5 z a) : oX5 (zGr z k) a := h
/-- what the pure functions owe for order -/
def Own3 (x m o L : Nat) (xs : Nat → Int32) (P : Sh → MJ → MI → Prop) (t u : Nat) (i : Int32) (z : Sh) (J : MJ) (I : MI) : Prop := ∃ p0 p1, rd L xs (i + 1) = some p0 ∧ rd L xs (i + 2) = some p1 ∧ ((∃ v zz Jz Iz, f_X4_order x t u p0 p1 I = some v ∧ f_Lt_3 m o L xs i 0 z (mst J o 0 v.toInt64) I = some (zz, Jz, Iz) ∧ P zz Jz Iz) ∨ (Thr t p0 p1 I ∧ ∀ k, ∃ zz Jz Iz, f_Lt_3 m o L xs i 1 (zGr z k) J I = some (zz, Jz, Iz) ∧ P zz Jz Iz))
set_option maxRecDepth 100000 in
set_option maxHeartbeats 4000000 in
theorem lc_3 {E : Ev} {X : Xt} {Q : State → Prop} {b x t u m o L : Nat} {xs : Nat → Int32} {i : Int32} {z : Sh} {J : MJ} {I : MI} {uc us d : Nat} {ad av : Nat → Nat} {P : Sh → MJ → MI → Prop} (hX : Cx E X cL_law 7 (some .boolean) RL) (hr0 : RmOk X (d + 41) 601024 7293034) (hu : uc + 10 ≤ 601024 ∧ us + 2127 ≤ 7293034) (hsc : Scr E X b L xs) (hx : oX4 z x t u) (hm : oX5 z m) (ho : o ∈ zL z ∧ zK z o = 8 ∧ zn z o = 1) (hE : EvOk E ad av) (h : Own3 x m o L xs P t u i z J I) (K : ∀ zz Jz Iz, P zz Jz Iz → GW E X Q 7 982 [(0, .ref b), (1, .ref x), (2, .ref m), (3, .ref o), (4, .int i)] [] zz Jz Iz (uc + 10) (us + 2127)) : GW E X Q 7 299 [(0, .ref b), (1, .ref x), (2, .ref m), (3, .ref o), (4, .int i)] [] z J I uc us := by
  obtain ⟨p0, p1, e0, e1, h⟩ := h
  refine g_aload_n hX (pc := 299) (i := 1) dL_law_299 rfl 1 rfl ?_
  refine g_aload_n hX (pc := 300) (i := 0) dL_law_300 rfl 0 rfl ?_
  refine g_iload hX (pc := 301) dL_law_301 4 rfl ?_
  refine g_iconst hX (pc := 303) (v := 1) dL_law_303 (by decide) ?_
  refine g_iadd hX (pc := 304) dL_law_304 ?_
  refine g_sldE hX (pc := 305) hsc e0 dL_law_305 ?_
  refine g_aload_n hX (pc := 306) (i := 0) dL_law_306 rfl 0 rfl ?_
  refine g_iload hX (pc := 307) dL_law_307 4 rfl ?_
  refine g_iconst hX (pc := 309) (v := 2) dL_law_309 (by decide) ?_
  refine g_iadd hX (pc := 310) dL_law_310 ?_
  refine g_sldE hX (pc := 311) hsc e1 dL_law_311 ?_
  refine g_aload_n hX (pc := 312) (i := 3) dL_law_312 rfl 3 rfl ?_
  rcases h with ⟨v, zz, Jz, Iz, hv, hf, hp⟩ | ⟨ht, hf⟩
  · refine g_callL (d := d + 32) hE hX hr0 hx ho (r := some v) (fun w hw => by cases hw; exact hv) (fun hw => by cases hw) (by omega) (Nat.le_of_ble_eq_true rfl) dL_law_313 (fun w hw => ?_) (fun hw => by cases hw)
    cases hw
    exact lt_3 (uc := uc + 1) (us := us + 6) hX hr0 (by omega) hsc hm ho hf (K zz Jz Iz hp)
  · refine g_callL (d := d + 32) hE hX hr0 hx ho (r := none) (fun w hw => by cases hw) (fun _ => ht) (by omega) (Nat.le_of_ble_eq_true rfl) dL_law_313 (fun w hw => by cases hw) (fun _ k => ?_)
    obtain ⟨zz, Jz, Iz, hf2, hp⟩ := hf k
    exact lt_3 (uc := uc + 1) (us := us + 6) hX hr0 (by omega) hsc (oX5_gr hm) ho hf2 (K zz Jz Iz hp)
noncomputable def f_Ls (z : Sh) (J : MJ) (I : MI) : Option (Nat × Nat × Nat × Sh × MJ × MI) :=
  (nm (zNw z 4)).bind fun z2 =>
  (nm (clr 0 I (zs z))).bind fun I1 =>
  (f_X4_init (zs z) z2 I1).bind fun r4 =>
  (gd (zs z2 ≤ zs r4.1)).bind fun g5 =>
  (gd (raw r4.1 (zs z) 4)).bind fun g6 =>
  (nm (zNw r4.1 5)).bind fun z9 =>
  (nm (clr 0 r4.2 (zs r4.1))).bind fun I7 =>
  (nm (clr 0 J (zs r4.1))).bind fun J8 =>
  (f_X5_init (zs r4.1) z9 J8 I7).bind fun r12 =>
  (gd (zs z9 ≤ zs r12.1)).bind fun g13 =>
  (gd (raw r12.1 (zs z) 4)).bind fun g14 =>
  (gd (raw r12.1 (zs r4.1) 5)).bind fun g15 =>
  (nm (zNa r12.1 8 1)).bind fun z17 =>
  (nm (clr 0 r12.2.1 (zs r12.1))).bind fun J16 =>
  some ((zs z, zs r4.1, zs r12.1, z17, J16, r12.2.2))
set_option maxRecDepth 100000 in
set_option maxHeartbeats 4000000 in
theorem l_start {E : Ev} {X : Xt} {Q : State → Prop} {b : Nat} {z : Sh} {J : MJ} {I : MI} {d : Nat} {r : Nat × Nat × Nat × Sh × MJ × MI} {ad av : Nat → Nat} (hX : Cx E X cL_law 7 (some .boolean) RL) (hr0 : RmOk X (d + 41) 601024 7293034) (hE : EvOk E ad av) (h : f_Ls z J I = some r) (K : GW E X Q 7 23 [(0, .ref b), (1, .ref r.1), (2, .ref r.2.1), (3, .ref r.2.2.1), (4, .int 0)] [] r.2.2.2.1 r.2.2.2.2.1 r.2.2.2.2.2 70 38666) : GW E X Q 7 0 [(0, .ref b)] [] z J I 0 0 := by
  unfold f_Ls at h
  obtain ⟨uc, huc⟩ : ∃ uc : Nat, uc = 0 := ⟨0, rfl⟩
  obtain ⟨us, hus⟩ : ∃ us : Nat, us = 0 := ⟨0, rfl⟩
  rw [show GW E X Q 7 0 [(0, .ref b)] [] z J I 0 0 = GW E X Q 7 0 [(0, .ref b)] [] z J I uc us by rw [huc, hus]]
  have KS : ∀ q : Nat × Nat × Nat × Sh × MJ × MI, q = r → GW E X Q 7 23 [(0, .ref b), (1, .ref q.1), (2, .ref q.2.1), (3, .ref q.2.2.1), (4, .int 0)] [] q.2.2.2.1 q.2.2.2.2.1 q.2.2.2.2.2 (uc + 70) (us + 38666) := by intro q hq; subst hq; rw [huc, hus]; simpa using K
  refine g_newO hX (pc := 0) hr0 4 (by decide) rfl rfl tyX4 tyX4_ok inl_X4 (J' := J) (I' := clr 0 I (zs z)) (df4 _ _ _) (fun _ _ => rfl) (fun b hb => clr_ne 0 _ hb) cl_L_8 ins_X4 ini_X4 (by omega) dL_law_0 ?_
  obtain ⟨z2, e_z2, h⟩ := bnd h
  refine g_nmz e_z2 ?_
  have hu3 := raw.nm e_z2 (raw.new (z := z) 4)
  obtain ⟨I1, e_I1, h⟩ := bnd h
  refine g_nmM e_I1 ?_
  refine g_dup hX (pc := 3) dL_law_3 rfl ?_
  obtain ⟨r4, e_r4, h⟩ := bnd h
  obtain ⟨g5, e_g5, h⟩ := bnd h
  refine g_callI hX (pc := 4) (d := d + 40) hr0 [] (ct_X4_init (d := d + 38) hu3 e_r4 hE) rfl co_X4_init ml_L_15 im_X4_init ini_X4 nm_X4_init (by decide) (by omega) (gd_some e_g5) (Nat.le_of_ble_eq_true rfl) rfl dL_law_4 ?_
  obtain ⟨g6, e_g6, h⟩ := bnd h
  refine g_astore_n hX (pc := 7) (i := 1) (ls' := [(0, .ref b), (1, .ref (zs z))]) [1, 0] dL_law_7 rfl (by decide) rfl ?_
  refine g_newO hX (pc := 8) hr0 5 (by decide) rfl rfl tyX5 tyX5_ok inl_X5 (J' := clr 0 J (zs r4.1)) (I' := clr 0 r4.2 (zs r4.1)) (df5 _ _ _) (fun b hb => clr_ne 0 _ hb) (fun b hb => clr_ne 0 _ hb) cl_L_16 ins_X5 ini_X5 (by omega) dL_law_8 ?_
  obtain ⟨z9, e_z9, h⟩ := bnd h
  refine g_nmz e_z9 ?_
  have hu10 := raw.nm e_z9 ((gd_some e_g6).nw 5)
  have hu11 := raw.nm e_z9 (raw.new (z := r4.1) 5)
  obtain ⟨I7, e_I7, h⟩ := bnd h
  refine g_nmM e_I7 ?_
  obtain ⟨J8, e_J8, h⟩ := bnd h
  refine g_nmMJ e_J8 ?_
  refine g_dup hX (pc := 11) dL_law_11 rfl ?_
  obtain ⟨r12, e_r12, h⟩ := bnd h
  obtain ⟨g13, e_g13, h⟩ := bnd h
  refine g_callI hX (pc := 12) (d := d + 40) hr0 [] (ct_X5_init (d := d + 39) hu11 e_r12) rfl co_X5_init ml_L_18 im_X5_init ini_X5 nm_X5_init (by decide) (by omega) (gd_some e_g13) (Nat.le_of_ble_eq_true rfl) rfl dL_law_12 ?_
  obtain ⟨g14, e_g14, h⟩ := bnd h
  obtain ⟨g15, e_g15, h⟩ := bnd h
  refine g_astore_n hX (pc := 15) (i := 2) (ls' := [(0, .ref b), (1, .ref (zs z)), (2, .ref (zs r4.1))]) [1, 2, 0] dL_law_15 rfl (by decide) rfl ?_
  refine g_iconst hX (pc := 16) (v := 1) dL_law_16 (by decide) ?_
  refine g_newA8 hX (pc := 17) hr0 (N := 1) (by decide) (by decide) (by decide) (by omega) dL_law_17 ?_
  obtain ⟨z17, e_z17, h⟩ := bnd h
  refine g_nmz e_z17 ?_
  have hu18 := raw.nm e_z17 ((gd_some e_g14).na 8 1)
  have hu19 := raw.nm e_z17 ((gd_some e_g15).na 8 1)
  obtain ⟨J16, e_J16, h⟩ := bnd h
  refine g_nmMJ e_J16 ?_
  refine g_astore_n hX (pc := 19) (i := 3) (ls' := [(0, .ref b), (1, .ref (zs z)), (2, .ref (zs r4.1)), (3, .ref (zs r12.1))]) [1, 2, 3, 0] dL_law_19 rfl (by decide) rfl ?_
  refine g_iconst hX (pc := 20) (v := 0) dL_law_20 (by decide) ?_
  refine g_istore hX (pc := 21) (ls' := [(0, .ref b), (1, .ref (zs z)), (2, .ref (zs r4.1)), (3, .ref (zs r12.1)), (4, .int 0)]) [1, 2, 3, 4, 0] dL_law_21 (by decide) rfl ?_
  refine g_widen (kc := uc + 70) (ks := us + 38666) (by omega) (by omega) ?_
  exact KS ((zs z, zs r4.1, zs r12.1, z17, J16, r12.2.2)) (Option.some.inj h)
/-- what a case owes: from every state of the invariant its pure function comes to one -/
def CaseOk (Inv : Nat → Nat → Sh → MJ → MI → Prop) (L : Nat) (f : Nat → Nat → Int32 → Sh → MJ → MI → Option (Sh × MJ × MI)) : Prop := ∀ t u z J I k, Inv t u z J I → 6 * k + 6 ≤ L → ∃ zz Jz Iz t' u', f t u (nI (6 * k)) z J I = some (zz, Jz, Iz) ∧ Inv t' u' zz Jz Iz
def Case3Ok (x m o : Nat) (Inv : Nat → Nat → Sh → MJ → MI → Prop) (L : Nat) (xs : Nat → Int32) : Prop := ∀ t u z J I k, Inv t u z J I → 6 * k + 6 ≤ L → Own3 x m o L xs (fun zz Jz Iz => ∃ t' u', Inv t' u' zz Jz Iz) t u (nI (6 * k)) z J I
def OpsOk (x m o : Nat) (Inv : Nat → Nat → Sh → MJ → MI → Prop) (L : Nat) (xs : Nat → Int32) : Prop := CaseOk Inv L (fun t u i z J I => f_Lc_0 x t u m L xs i z J I) ∧ CaseOk Inv L (fun t u i z J I => f_Lc_1 x t u m L xs i z J I) ∧ CaseOk Inv L (fun t u i z J I => f_Lc_2 x t u m L xs i z J I) ∧ Case3Ok x m o Inv L xs ∧ CaseOk Inv L (fun t u i z J I => f_Lc_4 x t u m L xs i z J I) ∧ CaseOk Inv L (fun t u i z J I => f_Lc_5 x t u m L xs i z J I) ∧ CaseOk Inv L (fun t u i z J I => f_Lc_6 x t u m L xs i z J I) ∧ CaseOk Inv L (fun t u i z J I => f_Lc_7 x t u m L xs i z J I) ∧ CaseOk Inv L (fun t u i z J I => f_Lc_8 x t u m L xs i z J I) ∧ CaseOk Inv L (fun t u i z J I => f_Lc_9 x t u m L xs i z J I) ∧ CaseOk Inv L (fun t u i z J I => f_Lc_10 x t u m L xs i z J I) ∧ CaseOk Inv L (fun t u i z J I => f_Lc_11 x t u m L xs i z J I) ∧ CaseOk Inv L (fun t u i z J I => f_Lc_12 x t u m L xs i z J I) ∧ CaseOk Inv L (fun t u i z J I => f_Lc_13 x t u m L xs i z J I) ∧ CaseOk Inv L (fun t u i z J I => f_Lc_14 x t u m L xs i z J I) ∧ CaseOk Inv L (fun t u i z J I => f_Lc_15 x t u m L xs i z J I) ∧ CaseOk Inv L (fun t u i z J I => f_Lc_16 x t u m L xs i z J I) ∧ CaseOk Inv L (fun t u i z J I => f_Lc_17 x t u m L xs i z J I) ∧ CaseOk Inv L (fun t u i z J I => f_Lc_18 x t u m L xs i z J I) ∧ CaseOk Inv L (fun t u i z J I => f_Lc_19 x t u m L xs i z J I) ∧ CaseOk Inv L (fun t u i z J I => f_Lc_20 x t u m L xs i z J I) ∧ CaseOk Inv L (fun t u i z J I => f_Lc_21 x t u m L xs i z J I) ∧ CaseOk Inv L (fun t u i z J I => f_Lc_22 x t u m L xs i z J I) ∧ CaseOk Inv L (fun t u i z J I => f_Lc_23 x t u m L xs i z J I) ∧ CaseOk Inv L (fun t u i z J I => f_Lc_24 x t u m L xs i z J I) ∧ CaseOk Inv L (fun t u i z J I => f_Lc_25 x t u m L xs i z J I) ∧ CaseOk Inv L (fun t u i z J I => f_Lc_26 x t u m L xs i z J I)
set_option maxRecDepth 100000 in
set_option maxHeartbeats 4000000 in
theorem law_loop {E : Ev} {X : Xt} {Q : State → Prop} {b x m o L : Nat} {xs : Nat → Int32} {d : Nat} {ad av : Nat → Nat} {Inv : Nat → Nat → Sh → MJ → MI → Prop} (hX : Cx E X cL_law 7 (some .boolean) RL) (hr0 : RmOk X (d + 41) 601024 7293034) (hE : EvOk E ad av) (hsc : Scr E X b L xs) (hL : L ≤ 3072) (hI : ∀ t u z J I, Inv t u z J I → oX4 z x t u ∧ oX5 z m ∧ (o ∈ zL z ∧ zK z o = 8 ∧ zn z o = 1)) (hO : OpsOk x m o Inv L xs)
    (hQ : ∀ (ls : List (Nat × Value)) (z : Sh) (J : MJ) (I : MI) (uc us : Nat), uc ≤ 601024 → us ≤ 7293034 → GW E X Q 7 989 ls [.int 1] z J I uc us) :
    ∀ (n k : Nat), n + k = 513 → 6 * k ≤ L + 5 → ∀ t u z J I, Inv t u z J I → GW E X Q 7 23 [(0, .ref b), (1, .ref x), (2, .ref m), (3, .ref o), (4, .int (nI (6 * k)))] [] z J I (70 + 10 * k) (38666 + 2127 * k) := by
  intro n
  induction n with
  | zero => intro k hk hk2; omega
  | succ n ih =>
    intro k hk hk2 t u z J I hinv
    obtain ⟨hx, hm, ho⟩ := hI t u z J I hinv
    refine g_iload hX (pc := 23) dL_law_23 4 rfl ?_
    refine g_aload_n hX (pc := 25) (i := 0) dL_law_25 rfl 0 rfl ?_
    refine g_slen hX (pc := 26) hsc dL_law_26 ?_
    refine g_bipush hX (pc := 27) (v := 6) dL_law_27 (by decide) ?_
    refine g_isub hX (pc := 29) dL_law_29 ?_
    have eL : (Int32.ofNat L - 6).toInt = (L : Int) - 6 := by
      have h1 : (Int32.ofNat L).toInt = (L : Int) := nI_toInt (n := L) (by omega)
      have h6 : (6 : Int32).toInt = 6 := by decide
      rw [Int32.toInt_sub, h1, h6]
      exact Int.bmod_eq_of_le (by omega) (by omega)
    have ei : (nI (6 * k)).toInt = ((6 * k : Nat) : Int) := nI_toInt (by omega)
    refine g_icmp_gt hX (pc := 30) dL_law_30 (tgt := 988) (by decide) (fun c => ?_) (fun c => ?_)
    · refine g_iconst hX (pc := 988) (v := 1) dL_law_988 (by decide) ?_
      exact hQ _ _ _ _ _ _ (by omega) (by omega)
    · have hk6 : 6 * k + 6 ≤ L := by
        have c2 : ¬ (Int32.ofNat L - 6).toInt < (nI (6 * k)).toInt := fun q => c (Int32.lt_iff_toInt_lt.mpr q)
        rw [eL, ei] at c2
        omega
      have K : ∀ zz Jz Iz, (∃ t2 u2, Inv t2 u2 zz Jz Iz) → GW E X Q 7 982 [(0, .ref b), (1, .ref x), (2, .ref m), (3, .ref o), (4, .int (nI (6 * k)))] [] zz Jz Iz (70 + 10 * k + 10) (38666 + 2127 * k + 2127) := by
        intro zz Jz Iz ⟨t2, u2, h2⟩
        refine g_iinc hX (pc := 982) (i := 4) (v := nI (6 * (k + 1))) (ls' := [(0, .ref b), (1, .ref x), (2, .ref m), (3, .ref o), (4, .int (nI (6 * (k + 1))))]) 4 [1, 2, 3, 4, 0] dL_law_982 rfl (nI_add (6 * k) 6) (by decide) rfl ?_
        refine g_goto hX (pc := 985) (tgt := 23) dL_law_985 (by decide) ?_
        exact ih (k + 1) (by omega) (by omega) t2 u2 zz Jz Iz h2
      have hu : 70 + 10 * k + 10 ≤ 601024 ∧ 38666 + 2127 * k + 2127 ≤ 7293034 := by omega
      refine g_aload_n hX (pc := 33) (i := 0) dL_law_33 rfl 0 rfl ?_
      refine g_iload hX (pc := 34) dL_law_34 4 rfl ?_
      have hrd : rd L xs (nI (6 * k)) = some (xs (6 * k)) := by
        unfold rd
        rw [if_neg (nI_in (c := 6 * k) (by omega) (by omega)), nI_clamp (by omega)]
      refine g_sldE hX (pc := 36) hsc hrd dL_law_36 ?_
      refine g_bipush hX (pc := 37) (v := 31) dL_law_37 (by decide) ?_
      refine g_iand hX (pc := 39) dL_law_39 ?_
      generalize xs (6 * k) &&& 31 = v
      by_cases c0 : v = 0
      · refine g_tableIn hX (pc := 40) (tgt := 164) (off := 124) dL_law_40 (by rw [c0]; decide) (by rw [c0]; decide) (by rw [c0]; rfl) (by decide) ?_
        obtain ⟨zz, Jz, Iz, t2, u2, hf, h2⟩ := hO.1 t u z J I k hinv hk6
        exact lc_0 hX hr0 hu hsc hx hm hf (K zz Jz Iz ⟨t2, u2, h2⟩)
      by_cases c1 : v = 1
      · refine g_tableIn hX (pc := 40) (tgt := 237) (off := 197) dL_law_40 (by rw [c1]; decide) (by rw [c1]; decide) (by rw [c1]; rfl) (by decide) ?_
        obtain ⟨zz, Jz, Iz, t2, u2, hf, h2⟩ := hO.2.1 t u z J I k hinv hk6
        exact lc_1 hX hr0 hu hsc hx hm hE hf (K zz Jz Iz ⟨t2, u2, h2⟩)
      by_cases c2 : v = 2
      · refine g_tableIn hX (pc := 40) (tgt := 262) (off := 222) dL_law_40 (by rw [c2]; decide) (by rw [c2]; decide) (by rw [c2]; rfl) (by decide) ?_
        obtain ⟨zz, Jz, Iz, t2, u2, hf, h2⟩ := hO.2.2.1 t u z J I k hinv hk6
        exact lc_2 hX hr0 hu hsc hx hm hf (K zz Jz Iz ⟨t2, u2, h2⟩)
      by_cases c3 : v = 3
      · refine g_tableIn hX (pc := 40) (tgt := 299) (off := 259) dL_law_40 (by rw [c3]; decide) (by rw [c3]; decide) (by rw [c3]; rfl) (by decide) ?_
        exact lc_3 hX hr0 hu hsc hx hm ho hE (hO.2.2.2.1 t u z J I k hinv hk6) K
      by_cases c4 : v = 4
      · refine g_tableIn hX (pc := 40) (tgt := 367) (off := 327) dL_law_40 (by rw [c4]; decide) (by rw [c4]; decide) (by rw [c4]; rfl) (by decide) ?_
        obtain ⟨zz, Jz, Iz, t2, u2, hf, h2⟩ := hO.2.2.2.2.1 t u z J I k hinv hk6
        exact lc_4 hX hr0 hu hsc hx hm hf (K zz Jz Iz ⟨t2, u2, h2⟩)
      by_cases c5 : v = 5
      · refine g_tableIn hX (pc := 40) (tgt := 416) (off := 376) dL_law_40 (by rw [c5]; decide) (by rw [c5]; decide) (by rw [c5]; rfl) (by decide) ?_
        obtain ⟨zz, Jz, Iz, t2, u2, hf, h2⟩ := hO.2.2.2.2.2.1 t u z J I k hinv hk6
        exact lc_5 hX hr0 hu hsc hx hm hf (K zz Jz Iz ⟨t2, u2, h2⟩)
      by_cases c6 : v = 6
      · refine g_tableIn hX (pc := 40) (tgt := 453) (off := 413) dL_law_40 (by rw [c6]; decide) (by rw [c6]; decide) (by rw [c6]; rfl) (by decide) ?_
        obtain ⟨zz, Jz, Iz, t2, u2, hf, h2⟩ := hO.2.2.2.2.2.2.1 t u z J I k hinv hk6
        exact lc_6 hX hr0 hu hsc hx hm hf (K zz Jz Iz ⟨t2, u2, h2⟩)
      by_cases c7 : v = 7
      · refine g_tableIn hX (pc := 40) (tgt := 466) (off := 426) dL_law_40 (by rw [c7]; decide) (by rw [c7]; decide) (by rw [c7]; rfl) (by decide) ?_
        obtain ⟨zz, Jz, Iz, t2, u2, hf, h2⟩ := hO.2.2.2.2.2.2.2.1 t u z J I k hinv hk6
        exact lc_7 hX hr0 hu hsc hx hm hf (K zz Jz Iz ⟨t2, u2, h2⟩)
      by_cases c8 : v = 8
      · refine g_tableIn hX (pc := 40) (tgt := 503) (off := 463) dL_law_40 (by rw [c8]; decide) (by rw [c8]; decide) (by rw [c8]; rfl) (by decide) ?_
        obtain ⟨zz, Jz, Iz, t2, u2, hf, h2⟩ := hO.2.2.2.2.2.2.2.2.1 t u z J I k hinv hk6
        exact lc_8 hX hr0 hu hsc hx hm hf (K zz Jz Iz ⟨t2, u2, h2⟩)
      by_cases c9 : v = 9
      · refine g_tableIn hX (pc := 40) (tgt := 516) (off := 476) dL_law_40 (by rw [c9]; decide) (by rw [c9]; decide) (by rw [c9]; rfl) (by decide) ?_
        obtain ⟨zz, Jz, Iz, t2, u2, hf, h2⟩ := hO.2.2.2.2.2.2.2.2.2.1 t u z J I k hinv hk6
        exact lc_9 hX hr0 hu hsc hx hm hf (K zz Jz Iz ⟨t2, u2, h2⟩)
      by_cases c10 : v = 10
      · refine g_tableIn hX (pc := 40) (tgt := 553) (off := 513) dL_law_40 (by rw [c10]; decide) (by rw [c10]; decide) (by rw [c10]; rfl) (by decide) ?_
        obtain ⟨zz, Jz, Iz, t2, u2, hf, h2⟩ := hO.2.2.2.2.2.2.2.2.2.2.1 t u z J I k hinv hk6
        exact lc_10 hX hr0 hu hsc hx hm hf (K zz Jz Iz ⟨t2, u2, h2⟩)
      by_cases c11 : v = 11
      · refine g_tableIn hX (pc := 40) (tgt := 566) (off := 526) dL_law_40 (by rw [c11]; decide) (by rw [c11]; decide) (by rw [c11]; rfl) (by decide) ?_
        obtain ⟨zz, Jz, Iz, t2, u2, hf, h2⟩ := hO.2.2.2.2.2.2.2.2.2.2.2.1 t u z J I k hinv hk6
        exact lc_11 hX hr0 hu hsc hx hm hf (K zz Jz Iz ⟨t2, u2, h2⟩)
      by_cases c12 : v = 12
      · refine g_tableIn hX (pc := 40) (tgt := 591) (off := 551) dL_law_40 (by rw [c12]; decide) (by rw [c12]; decide) (by rw [c12]; rfl) (by decide) ?_
        obtain ⟨zz, Jz, Iz, t2, u2, hf, h2⟩ := hO.2.2.2.2.2.2.2.2.2.2.2.2.1 t u z J I k hinv hk6
        exact lc_12 hX hr0 hu hsc hx hm hf (K zz Jz Iz ⟨t2, u2, h2⟩)
      by_cases c13 : v = 13
      · refine g_tableIn hX (pc := 40) (tgt := 628) (off := 588) dL_law_40 (by rw [c13]; decide) (by rw [c13]; decide) (by rw [c13]; rfl) (by decide) ?_
        obtain ⟨zz, Jz, Iz, t2, u2, hf, h2⟩ := hO.2.2.2.2.2.2.2.2.2.2.2.2.2.1 t u z J I k hinv hk6
        exact lc_13 hX hr0 hu hsc hx hm hf (K zz Jz Iz ⟨t2, u2, h2⟩)
      by_cases c14 : v = 14
      · refine g_tableIn hX (pc := 40) (tgt := 653) (off := 613) dL_law_40 (by rw [c14]; decide) (by rw [c14]; decide) (by rw [c14]; rfl) (by decide) ?_
        obtain ⟨zz, Jz, Iz, t2, u2, hf, h2⟩ := hO.2.2.2.2.2.2.2.2.2.2.2.2.2.2.1 t u z J I k hinv hk6
        exact lc_14 hX hr0 hu hsc hx hm hf (K zz Jz Iz ⟨t2, u2, h2⟩)
      by_cases c15 : v = 15
      · refine g_tableIn hX (pc := 40) (tgt := 690) (off := 650) dL_law_40 (by rw [c15]; decide) (by rw [c15]; decide) (by rw [c15]; rfl) (by decide) ?_
        obtain ⟨zz, Jz, Iz, t2, u2, hf, h2⟩ := hO.2.2.2.2.2.2.2.2.2.2.2.2.2.2.2.1 t u z J I k hinv hk6
        exact lc_15 hX hr0 hu hsc hx hm hf (K zz Jz Iz ⟨t2, u2, h2⟩)
      by_cases c16 : v = 16
      · refine g_tableIn hX (pc := 40) (tgt := 727) (off := 687) dL_law_40 (by rw [c16]; decide) (by rw [c16]; decide) (by rw [c16]; rfl) (by decide) ?_
        obtain ⟨zz, Jz, Iz, t2, u2, hf, h2⟩ := hO.2.2.2.2.2.2.2.2.2.2.2.2.2.2.2.2.1 t u z J I k hinv hk6
        exact lc_16 hX hr0 hu hsc hx hm hf (K zz Jz Iz ⟨t2, u2, h2⟩)
      by_cases c17 : v = 17
      · refine g_tableIn hX (pc := 40) (tgt := 752) (off := 712) dL_law_40 (by rw [c17]; decide) (by rw [c17]; decide) (by rw [c17]; rfl) (by decide) ?_
        obtain ⟨zz, Jz, Iz, t2, u2, hf, h2⟩ := hO.2.2.2.2.2.2.2.2.2.2.2.2.2.2.2.2.2.1 t u z J I k hinv hk6
        exact lc_17 hX hr0 hu hsc hx hm hf (K zz Jz Iz ⟨t2, u2, h2⟩)
      by_cases c18 : v = 18
      · refine g_tableIn hX (pc := 40) (tgt := 777) (off := 737) dL_law_40 (by rw [c18]; decide) (by rw [c18]; decide) (by rw [c18]; rfl) (by decide) ?_
        obtain ⟨zz, Jz, Iz, t2, u2, hf, h2⟩ := hO.2.2.2.2.2.2.2.2.2.2.2.2.2.2.2.2.2.2.1 t u z J I k hinv hk6
        exact lc_18 hX hr0 hu hsc hx hm hf (K zz Jz Iz ⟨t2, u2, h2⟩)
      by_cases c19 : v = 19
      · refine g_tableIn hX (pc := 40) (tgt := 790) (off := 750) dL_law_40 (by rw [c19]; decide) (by rw [c19]; decide) (by rw [c19]; rfl) (by decide) ?_
        obtain ⟨zz, Jz, Iz, t2, u2, hf, h2⟩ := hO.2.2.2.2.2.2.2.2.2.2.2.2.2.2.2.2.2.2.2.1 t u z J I k hinv hk6
        exact lc_19 hX hr0 hu hsc hx hm hf (K zz Jz Iz ⟨t2, u2, h2⟩)
      by_cases c20 : v = 20
      · refine g_tableIn hX (pc := 40) (tgt := 803) (off := 763) dL_law_40 (by rw [c20]; decide) (by rw [c20]; decide) (by rw [c20]; rfl) (by decide) ?_
        obtain ⟨zz, Jz, Iz, t2, u2, hf, h2⟩ := hO.2.2.2.2.2.2.2.2.2.2.2.2.2.2.2.2.2.2.2.2.1 t u z J I k hinv hk6
        exact lc_20 hX hr0 hu hsc hx hm hf (K zz Jz Iz ⟨t2, u2, h2⟩)
      by_cases c21 : v = 21
      · refine g_tableIn hX (pc := 40) (tgt := 828) (off := 788) dL_law_40 (by rw [c21]; decide) (by rw [c21]; decide) (by rw [c21]; rfl) (by decide) ?_
        obtain ⟨zz, Jz, Iz, t2, u2, hf, h2⟩ := hO.2.2.2.2.2.2.2.2.2.2.2.2.2.2.2.2.2.2.2.2.2.1 t u z J I k hinv hk6
        exact lc_21 hX hr0 hu hsc hx hm hf (K zz Jz Iz ⟨t2, u2, h2⟩)
      by_cases c22 : v = 22
      · refine g_tableIn hX (pc := 40) (tgt := 865) (off := 825) dL_law_40 (by rw [c22]; decide) (by rw [c22]; decide) (by rw [c22]; rfl) (by decide) ?_
        obtain ⟨zz, Jz, Iz, t2, u2, hf, h2⟩ := hO.2.2.2.2.2.2.2.2.2.2.2.2.2.2.2.2.2.2.2.2.2.2.1 t u z J I k hinv hk6
        exact lc_22 hX hr0 hu hsc hx hm hf (K zz Jz Iz ⟨t2, u2, h2⟩)
      by_cases c23 : v = 23
      · refine g_tableIn hX (pc := 40) (tgt := 878) (off := 838) dL_law_40 (by rw [c23]; decide) (by rw [c23]; decide) (by rw [c23]; rfl) (by decide) ?_
        obtain ⟨zz, Jz, Iz, t2, u2, hf, h2⟩ := hO.2.2.2.2.2.2.2.2.2.2.2.2.2.2.2.2.2.2.2.2.2.2.2.1 t u z J I k hinv hk6
        exact lc_23 hX hr0 hu hsc hx hm hf (K zz Jz Iz ⟨t2, u2, h2⟩)
      by_cases c24 : v = 24
      · refine g_tableIn hX (pc := 40) (tgt := 891) (off := 851) dL_law_40 (by rw [c24]; decide) (by rw [c24]; decide) (by rw [c24]; rfl) (by decide) ?_
        obtain ⟨zz, Jz, Iz, t2, u2, hf, h2⟩ := hO.2.2.2.2.2.2.2.2.2.2.2.2.2.2.2.2.2.2.2.2.2.2.2.2.1 t u z J I k hinv hk6
        exact lc_24 hX hr0 hu hsc hx hm hf (K zz Jz Iz ⟨t2, u2, h2⟩)
      by_cases c25 : v = 25
      · refine g_tableIn hX (pc := 40) (tgt := 904) (off := 864) dL_law_40 (by rw [c25]; decide) (by rw [c25]; decide) (by rw [c25]; rfl) (by decide) ?_
        obtain ⟨zz, Jz, Iz, t2, u2, hf, h2⟩ := hO.2.2.2.2.2.2.2.2.2.2.2.2.2.2.2.2.2.2.2.2.2.2.2.2.2.1 t u z J I k hinv hk6
        exact lc_25 hX hr0 hu hsc hx hm hf (K zz Jz Iz ⟨t2, u2, h2⟩)
      by_cases c26 : v = 26
      · refine g_tableIn hX (pc := 40) (tgt := 957) (off := 917) dL_law_40 (by rw [c26]; decide) (by rw [c26]; decide) (by rw [c26]; rfl) (by decide) ?_
        obtain ⟨zz, Jz, Iz, t2, u2, hf, h2⟩ := hO.2.2.2.2.2.2.2.2.2.2.2.2.2.2.2.2.2.2.2.2.2.2.2.2.2.2 t u z J I k hinv hk6
        exact lc_26 hX hr0 hu hsc hx hm hf (K zz Jz Iz ⟨t2, u2, h2⟩)
      refine g_tableOut hX (pc := 40) (tgt := 982) dL_law_40 (by have q0 := lv_neT c0 (show (0 : Int32).toInt = 0 by decide); have q1 := lv_neT c1 (show (1 : Int32).toInt = 1 by decide); have q2 := lv_neT c2 (show (2 : Int32).toInt = 2 by decide); have q3 := lv_neT c3 (show (3 : Int32).toInt = 3 by decide); have q4 := lv_neT c4 (show (4 : Int32).toInt = 4 by decide); have q5 := lv_neT c5 (show (5 : Int32).toInt = 5 by decide); have q6 := lv_neT c6 (show (6 : Int32).toInt = 6 by decide); have q7 := lv_neT c7 (show (7 : Int32).toInt = 7 by decide); have q8 := lv_neT c8 (show (8 : Int32).toInt = 8 by decide); have q9 := lv_neT c9 (show (9 : Int32).toInt = 9 by decide); have q10 := lv_neT c10 (show (10 : Int32).toInt = 10 by decide); have q11 := lv_neT c11 (show (11 : Int32).toInt = 11 by decide); have q12 := lv_neT c12 (show (12 : Int32).toInt = 12 by decide); have q13 := lv_neT c13 (show (13 : Int32).toInt = 13 by decide); have q14 := lv_neT c14 (show (14 : Int32).toInt = 14 by decide); have q15 := lv_neT c15 (show (15 : Int32).toInt = 15 by decide); have q16 := lv_neT c16 (show (16 : Int32).toInt = 16 by decide); have q17 := lv_neT c17 (show (17 : Int32).toInt = 17 by decide); have q18 := lv_neT c18 (show (18 : Int32).toInt = 18 by decide); have q19 := lv_neT c19 (show (19 : Int32).toInt = 19 by decide); have q20 := lv_neT c20 (show (20 : Int32).toInt = 20 by decide); have q21 := lv_neT c21 (show (21 : Int32).toInt = 21 by decide); have q22 := lv_neT c22 (show (22 : Int32).toInt = 22 by decide); have q23 := lv_neT c23 (show (23 : Int32).toInt = 23 by decide); have q24 := lv_neT c24 (show (24 : Int32).toInt = 24 by decide); have q25 := lv_neT c25 (show (25 : Int32).toInt = 25 by decide); have q26 := lv_neT c26 (show (26 : Int32).toInt = 26 by decide); omega) (by decide) ?_
      refine g_widen (kc := 70 + 10 * k + 10) (ks := 38666 + 2127 * k + 2127) (by omega) (by omega) ?_
      exact K z J I ⟨t, u, hinv⟩
