/-! String constants: length and charAt by the JDK's own code; spelled -/
section Str
variable {E : Ev} {X : Xt} {Q : State → Prop} {n : Nat} {pc index : Nat} {ls : List (Nat × Value)} {st : List Value} {z z' : Sh} {J J' : MJ} {I I' : MI} {uc us : Nat} {cc : ByteArray} {ret : Option FieldType} {own : String} {ad av : Nat → Nat}
theorem EvOk.hq (hE : EvOk E ad av) (hX : Cx E X cc n ret own) : ∀ a : Nat, a < (eH E).size → ¬ aB E a → (xS X).heap[a]? = (eH E)[a]? := fun a h _ => hX.bb.2 a (by rw [← hE.1.1]; exact h)
theorem EvOk.S (hE : EvOk E ad av) (hX : Cx E X cc n ret own) : vk_S 4 strN strB ad av (aB E) (xS X) (xS X).heap := ((hE.2 _ hX.kw.2.2.1).2.2.1).kept (hE.hq hX)
theorem EvOk.cs (hE : EvOk E ad av) (hX : Cx E X cc n ret own) : va_Z "java/lang/String" "COMPACT_STRINGS" "Z" (.int 1) (aB E) (xS X) (xS X).heap := ((hE.2 _ hX.kw.2.2.1).2.2.2.1).kept (hE.hq hX)
theorem EvOk.sf (hE : EvOk E ad av) (hX : Cx E X cc n ret own) : va_Zq "jdk/internal/util/Preconditions" "SIOOBE_FORMATTER" "Ljava/util/function/BiFunction;" (aB E) (xS X) (xS X).heap := ((hE.2 _ hX.kw.2.2.1).2.2.2.2.1).kept (hE.hq hX)
theorem g_getSc (hE : EvOk E ad av) (hX : Cx E X cc n ret own) {i : Nat} (hi : i < 4) (hw : Cond.fieldLink own index "java/lang/String" "coder" "B" ∈ wU) (hd : decode cc pc = .ok (.getfield index, 3)) (kk : GW E X Q n (pc + 3) ls (.int 0 :: st) z J I uc us) : GW E X Q n pc ls (.ref (ad i) :: st) z J I uc us :=
  fun H locs lsA hR hS hl => vk_getf hX.ex hX.cd ((hE.S hX).1 i hi).2.1 hS hX.ow (hX.ht _ hw) (fun _ q => q) hd (kk H locs lsA hR hS hl)
theorem g_getSv (hE : EvOk E ad av) (hX : Cx E X cc n ret own) {i : Nat} (hi : i < 4) (hw : Cond.fieldLink own index "java/lang/String" "value" "[B" ∈ wU) (hd : decode cc pc = .ok (.getfield index, 3)) (kk : GW E X Q n (pc + 3) ls (.ref (av i) :: st) z J I uc us) : GW E X Q n pc ls (.ref (ad i) :: st) z J I uc us :=
  fun H locs lsA hR hS hl => vk_getf hX.ex hX.cd ((hE.S hX).1 i hi).2.2.1 hS hX.ow (hX.ht _ hw) (fun _ q => q) hd (kk H locs lsA hR hS hl)
theorem g_getCS (hE : EvOk E ad av) (hX : Cx E X cc n ret own) (hw : Cond.fieldLink own index "java/lang/String" "COMPACT_STRINGS" "Z" ∈ wU) (hd : decode cc pc = .ok (.getstatic index, 3)) (kk : GW E X Q n (pc + 3) ls (.int 1 :: st) z J I uc us) : GW E X Q n pc ls st z J I uc us :=
  fun H locs lsA hR hS hl => va_gets hX.ex hX.cd (hE.cs hX) hS hX.ow (hX.ht _ hw) (fun _ q => q) hd (kk H locs lsA hR hS hl)
theorem g_getSF (hE : EvOk E ad av) (hX : Cx E X cc n ret own) (hw : Cond.fieldLink own index "jdk/internal/util/Preconditions" "SIOOBE_FORMATTER" "Ljava/util/function/BiFunction;" ∈ wU) (hd : decode cc pc = .ok (.getstatic index, 3)) (kk : ∀ v : Value, (v = .null ∨ ∃ t : Nat, v = .ref t) → GW E X Q n (pc + 3) ls (v :: st) z J I uc us) : GW E X Q n pc ls st z J I uc us := by
  intro H locs lsA hR hS hl
  rcases hE.sf hX with h | ⟨t, h⟩
  · exact va_gets hX.ex hX.cd h hS hX.ow (hX.ht _ hw) (fun _ q => q) hd (kk _ (Or.inl rfl) H locs lsA hR hS hl)
  · exact va_gets hX.ex hX.cd h hS hX.ow (hX.ht _ hw) (fun _ q => q) hd (kk _ (Or.inr ⟨t, rfl⟩) H locs lsA hR hS hl)
theorem g_alenS (hE : EvOk E ad av) (hX : Cx E X cc n ret own) {i : Nat} (hi : i < 4) (hd : decode cc pc = .ok (.arraylength, 1)) (kk : GW E X Q n (pc + 1) ls (.int (Int32.ofNat (strN.getD i 0)) :: st) z J I uc us) : GW E X Q n pc ls (.ref (av i) :: st) z J I uc us :=
  fun H locs lsA hR hS hl => va_tlen hX.ex hX.cd ((hE.S hX).1 i hi).2.2.2 hS rfl hd (kk H locs lsA hR hS hl)
theorem g_baloadS (hE : EvOk E ad av) (hX : Cx E X cc n ret own) {i : Nat} (hi : i < 4) {x : Int32} (hx : vp_in x (strN.getD i 0)) (hd : decode cc pc = .ok (.baload, 1)) (kk : GW E X Q n (pc + 1) ls (.int ((strB.getD i []).getD x.toNatClampNeg 0) :: st) z J I uc us) : GW E X Q n pc ls (.int x :: .ref (av i) :: st) z J I uc us :=
  fun H locs lsA hR hS hl => va_tb hX.ex hX.cd ((hE.S hX).1 i hi).2.2.2 hS hx rfl hd (kk H locs lsA hR hS hl)
theorem g_callVS {d mc ms MC MS maxL : Nat} {y : MethodName} {bytes : ByteArray} {rt : Option FieldType} {stk : List Value} {v : Int32} (hE : EvOk E ad av) (hX : Cx E X cc n ret own) (hr0 : RmOk X (d + 1) MC MS) (As : List Value) {i : Nat} (hi : i < 4) (hct : Ct E d y bytes maxL rt mc ms (.ref (ad i) :: As) z J I (some (.int v)) z' J' I') (hco : Cond.code y bytes maxL rt ∈ wU) (hml : Cond.methodLink own index y ∈ wU) (him : Cond.instanceMethod y ∈ wU) (hsl : Cond.selects RJ0 y y ∈ wU) (hini : Cond.initialized y.cls ∈ wU)
    (hnm : y.cls ≠ "java/lang/invoke/MethodHandle" ∧ y.cls ≠ "java/lang/invoke/VarHandle" ∧ (parseMethodDescriptor y.desc).map (fun d => d.parameters.length) = some As.length) (hL : maxL ≤ 45) (hu : uc + mc ≤ MC ∧ us + ms ≤ MS) (hz : zs z ≤ zs z') (hcat : (st.map fun v => v.category).sum ≤ 8) (hstk : stk = As.reverse ++ .ref (ad i) :: st) (hd : decode cc pc = .ok (.invokevirtual index, 3))
    (kk : GW E X Q n (pc + 3) ls (.int v :: st) z' J' I' (uc + mc) (us + ms)) : GW E X Q n pc ls stk z J I uc us := by
  intro H locs lsA hR hS hl
  exact g_ran (o := some (.int v)) hX hz hR hS hl (va_runV (As := As) (rest := st) (C := RJ0) ⟨hX.ex, hX.cd, hX.ml, hX.ow, hX.ht⟩ hct ⟨callB_of As.length hX.ht (good_mW hco) rfl rfl rfl (hX.ht _ hini) (hX.ht _ hml) hnm (room_le hr0 hL), hX.ht _ him, hX.ht _ hsl⟩ ⟨Ct.blind, vk_recv (hE.S hX) hi hS, fun U hU hW => ⟨rfl, by rw [hU]; exact hR, hX.kw.warm hW⟩⟩ rfl rfl hl.1 hstk (lv_room hcat) hd ⟨Nat.le_trans hu.1 hr0.2.2.1, Nat.le_trans hu.2 hr0.2.2.2⟩) kk
theorem g_nreturn {ty : FieldType} (hX : Cx E X cc n (some ty) own) {v : Int32} {mc ms : Nat} (hn : narrow ty (.int v) = .int v) (h1 : uc ≤ mc) (h2 : us ≤ ms) (hd : decode cc pc = .ok (.ireturn, 1)) : GW E X (QX E X mc ms (some (.int v)) z J I) n pc ls [.int v] z J I uc us :=
  fun H locs lsA hR hS hl => W.widen h1 h2 (W.zret hX.ex hX.cd hX.rt hn (fun t ht _ => ⟨rfl, by rw [ht]; exact hR⟩) hS.2.2 hd (hlocks := hX.lk))
end Str
theorem nm_J0_coder : yJ0_coder_7d493.cls ≠ "java/lang/invoke/MethodHandle" ∧ yJ0_coder_7d493.cls ≠ "java/lang/invoke/VarHandle" ∧ (parseMethodDescriptor yJ0_coder_7d493.desc).map (fun d => d.parameters.length) = some 0 := by decide +kernel
theorem nm_J0_isLatin1 : yJ0_isLatin1_aae02.cls ≠ "java/lang/invoke/MethodHandle" ∧ yJ0_isLatin1_aae02.cls ≠ "java/lang/invoke/VarHandle" ∧ (parseMethodDescriptor yJ0_isLatin1_aae02.desc).map (fun d => d.parameters.length) = some 0 := by decide +kernel
theorem nm_J0_length : yJ0_length_8abf5.cls ≠ "java/lang/invoke/MethodHandle" ∧ yJ0_length_8abf5.cls ≠ "java/lang/invoke/VarHandle" ∧ (parseMethodDescriptor yJ0_length_8abf5.desc).map (fun d => d.parameters.length) = some 0 := by decide +kernel
theorem nm_J0_charAt : yJ0_charAt_5068e.cls ≠ "java/lang/invoke/MethodHandle" ∧ yJ0_charAt_5068e.cls ≠ "java/lang/invoke/VarHandle" ∧ (parseMethodDescriptor yJ0_charAt_5068e.desc).map (fun d => d.parameters.length) = some 1 := by decide +kernel
theorem nm_J1_charAt : yJ1_charAt_3b067.cls ≠ "java/lang/invoke/MethodHandle" ∧ yJ1_charAt_3b067.cls ≠ "java/lang/invoke/VarHandle" ∧ (parseMethodDescriptor yJ1_charAt_3b067.desc).map (fun d => d.parameters.length) = some 2 := by decide +kernel
theorem nm_J0_checkIndex : yJ0_checkIndex_df160.cls ≠ "java/lang/invoke/MethodHandle" ∧ yJ0_checkIndex_df160.cls ≠ "java/lang/invoke/VarHandle" ∧ (parseMethodDescriptor yJ0_checkIndex_df160.desc).map (fun d => d.parameters.length) = some 2 := by decide +kernel
theorem nm_J3_checkIndex : yJ3_checkIndex_8e157.cls ≠ "java/lang/invoke/MethodHandle" ∧ yJ3_checkIndex_8e157.cls ≠ "java/lang/invoke/VarHandle" ∧ (parseMethodDescriptor yJ3_checkIndex_8e157.desc).map (fun d => d.parameters.length) = some 3 := by decide +kernel
section StrM
variable {E : Ev} {d : Nat} {z : Sh} {J : MJ} {I : MI} {ad av : Nat → Nat}
set_option maxRecDepth 100000 in
theorem c_coder (hE : EvOk E ad av) {i : Nat} (hi : i < 4) : Ct E d yJ0_coder_7d493 cJ0_coder_7d493 1 (some .byte) 0 0 [.ref (ad i)] z J I (some (.int 0)) z J I := by
  refine Ct.of (own := RJ0) (ls := [(0, .ref (ad i))]) (by decide) rfl (Nat.le_of_ble_eq_true rfl) rfl ?_
  intro X hr0 hnm hX
  refine g_getCS hE hX (pc := 0) fl_J0_38 dJ0_coder_7d493_0 ?_
  refine g_if_eq hX (pc := 3) dJ0_coder_7d493_3 (tgt := 13) (by decide) (fun c => ?_) (fun c => ?_)
  · exact absurd c (by decide)
  · refine g_aload_n hX (pc := 6) (i := 0) dJ0_coder_7d493_6 rfl 0 rfl ?_
    refine g_getSc hE hX (pc := 7) hi fl_J0_15 dJ0_coder_7d493_7 ?_
    refine g_goto hX (pc := 10) (tgt := 14) dJ0_coder_7d493_10 (by decide) ?_
    exact g_nreturn hX rfl (Nat.le_refl _) (Nat.le_refl _) dJ0_coder_7d493_14
set_option maxRecDepth 100000 in
theorem c_isLatin1 (hE : EvOk E ad av) {i : Nat} (hi : i < 4) : Ct E d yJ0_isLatin1_aae02 cJ0_isLatin1_aae02 1 (some .boolean) 0 0 [.ref (ad i)] z J I (some (.int 1)) z J I := by
  refine Ct.of (own := RJ0) (ls := [(0, .ref (ad i))]) (by decide) rfl (Nat.le_of_ble_eq_true rfl) rfl ?_
  intro X hr0 hnm hX
  refine g_getCS hE hX (pc := 0) fl_J0_38 dJ0_isLatin1_aae02_0 ?_
  refine g_if_eq hX (pc := 3) dJ0_isLatin1_aae02_3 (tgt := 17) (by decide) (fun c => ?_) (fun c => ?_)
  · exact absurd c (by decide)
  · refine g_aload_n hX (pc := 6) (i := 0) dJ0_isLatin1_aae02_6 rfl 0 rfl ?_
    refine g_getSc hE hX (pc := 7) hi fl_J0_15 dJ0_isLatin1_aae02_7 ?_
    refine g_if_ne hX (pc := 10) dJ0_isLatin1_aae02_10 (tgt := 17) (by decide) (fun c => ?_) (fun c => ?_)
    · refine g_iconst hX (pc := 13) (v := 1) dJ0_isLatin1_aae02_13 (by decide) ?_
      refine g_goto hX (pc := 14) (tgt := 18) dJ0_isLatin1_aae02_14 (by decide) ?_
      exact g_nreturn hX rfl (Nat.le_refl _) (Nat.le_refl _) dJ0_isLatin1_aae02_18
    · exact absurd rfl c
set_option maxRecDepth 100000 in
theorem c_length (hE : EvOk E ad av) {i : Nat} (hi : i < 4) : Ct E (d + 1) yJ0_length_8abf5 cJ0_length_8abf5 1 (some .int) 0 0 [.ref (ad i)] z J I (some (.int (Int32.ofNat (strN.getD i 0)))) z J I := by
  refine Ct.of (own := RJ0) (ls := [(0, .ref (ad i))]) (by decide) rfl (Nat.le_of_ble_eq_true rfl) rfl ?_
  intro X hr0 hnm hX
  refine g_aload_n hX (pc := 0) (i := 0) dJ0_length_8abf5_0 rfl 0 rfl ?_
  refine g_getSv hE hX (pc := 1) hi fl_J0_9 dJ0_length_8abf5_1 ?_
  refine g_alenS hE hX (pc := 4) hi dJ0_length_8abf5_4 ?_
  refine g_aload_n hX (pc := 5) (i := 0) dJ0_length_8abf5_5 rfl 0 rfl ?_
  refine g_callVS hE hX (pc := 6) (d := d) hr0 [] hi (c_coder hE hi) co_J0_coder_7d493 ml_J0_335 im_J0_coder_7d493 sl_J0_coder_7d493 ini_J0 nm_J0_coder (by decide) ⟨Nat.le_refl _, Nat.le_refl _⟩ (Nat.le_refl _) (Nat.le_of_ble_eq_true rfl) rfl dJ0_length_8abf5_6 ?_
  refine g_ishr hX (pc := 9) dJ0_length_8abf5_9 ?_
  have e : (Int32.ofNat (strN.getD i 0)) >>> ((0 : Int32) &&& 31) = Int32.ofNat (strN.getD i 0) := by
    rcases (show i = 0 ∨ i = 1 ∨ i = 2 ∨ i = 3 by omega) with rfl | rfl | rfl | rfl <;> decide
  rw [e]
  exact g_ireturn hX (Nat.le_refl _) (Nat.le_refl _) dJ0_length_8abf5_10
set_option maxRecDepth 100000 in
theorem c_pcheck {x y : Int32} {v : Value} (hv : v = .null ∨ ∃ t : Nat, v = .ref t) (h0 : ¬ x < 0) (h1 : x < y) : Ct E d yJ3_checkIndex_8e157 cJ3_checkIndex_8e157 3 (some .int) 0 0 [.int x, .int y, v] z J I (some (.int x)) z J I := by
  refine Ct.of (own := RJ3) (ls := [(0, .int x), (1, .int y), (2, v)]) (by decide) rfl (by rcases hv with rfl | ⟨t, rfl⟩ <;> exact Nat.le_of_ble_eq_true rfl) (by rcases hv with rfl | ⟨t, rfl⟩ <;> rfl) ?_
  intro X hr0 hnm hX
  refine g_iload_n hX (pc := 0) (i := 0) dJ3_checkIndex_8e157_0 rfl 0 rfl ?_
  refine g_if_lt hX (pc := 1) dJ3_checkIndex_8e157_1 (tgt := 9) (by decide) (fun c => absurd c h0) (fun c => ?_)
  refine g_iload_n hX (pc := 4) (i := 0) dJ3_checkIndex_8e157_4 rfl 0 rfl ?_
  refine g_iload_n hX (pc := 5) (i := 1) dJ3_checkIndex_8e157_5 rfl 1 rfl ?_
  refine g_icmp_lt hX (pc := 6) dJ3_checkIndex_8e157_6 (tgt := 16) (by decide) (fun c => ?_) (fun c => absurd h1 c)
  refine g_iload_n hX (pc := 16) (i := 0) dJ3_checkIndex_8e157_16 rfl 0 rfl ?_
  exact g_ireturn hX (Nat.le_refl _) (Nat.le_refl _) dJ3_checkIndex_8e157_17
set_option maxRecDepth 100000 in
theorem c_scheck (hE : EvOk E ad av) {x y : Int32} (h0 : ¬ x < 0) (h1 : x < y) : Ct E (d + 1) yJ0_checkIndex_df160 cJ0_checkIndex_df160 2 none 0 0 [.int x, .int y] z J I none z J I := by
  refine Ct.of (own := RJ0) (ls := [(0, .int x), (1, .int y)]) (by decide) rfl (Nat.le_of_ble_eq_true rfl) rfl ?_
  intro X hr0 hnm hX
  refine g_iload_n hX (pc := 0) (i := 0) dJ0_checkIndex_df160_0 rfl 0 rfl ?_
  refine g_iload_n hX (pc := 1) (i := 1) dJ0_checkIndex_df160_1 rfl 1 rfl ?_
  refine g_getSF hE hX (pc := 2) fl_J0_1053 dJ0_checkIndex_df160_2 (fun v hv => ?_)
  refine g_callSi hX (pc := 5) (d := d) hr0 [.int x, .int y, v] (c_pcheck hv h0 h1) co_J3_checkIndex_8e157 ml_J0_1059 sta_J3_checkIndex_8e157 ini_J3 nm_J3_checkIndex (by decide) ⟨Nat.le_refl _, Nat.le_refl _⟩ (Nat.le_refl _) (Nat.le_of_ble_eq_true rfl) rfl dJ0_checkIndex_df160_5 ?_
  refine g_pop hX (pc := 8) dJ0_checkIndex_df160_8 rfl ?_
  exact g_return hX (Nat.le_refl _) (Nat.le_refl _) dJ0_checkIndex_df160_9
/-- a constant's sign -/
def strC (i j : Nat) : Int32 := ((((strB.getD i []).getD j 0) &&& 255).toUInt32 % 65536).toInt32
theorem strC_ok {i j : Nat} (hi : i < 4) (hj : j < strN.getD i 0) : narrow .char (.int (strC i j)) = .int (strC i j) := by
  rcases (show i = 0 ∨ i = 1 ∨ i = 2 ∨ i = 3 by omega) with rfl | rfl | rfl | rfl <;> simp only [strN, List.getD_cons_zero, List.getD_cons_succ] at hj
  · rcases (show j = 0 ∨ j = 1 ∨ j = 2 ∨ j = 3 ∨ j = 4 by omega) with rfl | rfl | rfl | rfl | rfl <;> decide
  · rcases (show j = 0 ∨ j = 1 ∨ j = 2 ∨ j = 3 by omega) with rfl | rfl | rfl | rfl <;> decide
  · rcases (show j = 0 ∨ j = 1 ∨ j = 2 ∨ j = 3 by omega) with rfl | rfl | rfl | rfl <;> decide
  · rcases (show j = 0 ∨ j = 1 ∨ j = 2 ∨ j = 3 ∨ j = 4 by omega) with rfl | rfl | rfl | rfl | rfl <;> decide
theorem strN_le {i : Nat} (hi : i < 4) : strN.getD i 0 ≤ 5 := by
  rcases (show i = 0 ∨ i = 1 ∨ i = 2 ∨ i = 3 by omega) with rfl | rfl | rfl | rfl <;> decide
theorem toNat_nI {j : Nat} (h : j < 2 ^ 31) : (nI j).toNatClampNeg = j := by
  have := Int32.toNatClampNeg_ofNat_of_lt (n := j) h
  exact this
set_option maxRecDepth 100000 in
theorem c_l1charAt (hE : EvOk E ad av) {i j : Nat} (hi : i < 4) (hj : j < strN.getD i 0) : Ct E (d + 2) yJ1_charAt_3b067 cJ1_charAt_3b067 2 (some .char) 0 0 [.ref (av i), .int (nI j)] z J I (some (.int (strC i j))) z J I := by
  have h5 := strN_le hi
  have hin : vp_in (nI j) (strN.getD i 0) := vp_in_nI hj (by omega)
  have h0 : ¬ nI j < 0 := fun q => hin (Or.inl q)
  refine Ct.of (own := RJ1) (ls := [(0, .ref (av i)), (1, .int (nI j))]) (by decide) rfl (Nat.le_of_ble_eq_true rfl) rfl ?_
  intro X hr0 hnm hX
  refine g_iload_n hX (pc := 0) (i := 1) dJ1_charAt_3b067_0 rfl 1 rfl ?_
  refine g_aload_n hX (pc := 1) (i := 0) dJ1_charAt_3b067_1 rfl 0 rfl ?_
  refine g_alenS hE hX (pc := 2) hi dJ1_charAt_3b067_2 ?_
  refine g_callSv hX (pc := 3) (d := d + 1) hr0 [.int (nI j), .int (Int32.ofNat (strN.getD i 0))] (c_scheck (d := d) hE h0 (nI_lt hj (by omega))) co_J0_checkIndex_df160 ml_J1_9 sta_J0_checkIndex_df160 ini_J0 nm_J0_checkIndex (by decide) ⟨Nat.le_refl _, Nat.le_refl _⟩ (Nat.le_refl _) (Nat.le_of_ble_eq_true rfl) rfl dJ1_charAt_3b067_3 ?_
  refine g_aload_n hX (pc := 6) (i := 0) dJ1_charAt_3b067_6 rfl 0 rfl ?_
  refine g_iload_n hX (pc := 7) (i := 1) dJ1_charAt_3b067_7 rfl 1 rfl ?_
  refine g_baloadS hE hX (pc := 8) hi hin dJ1_charAt_3b067_8 ?_
  refine g_sipush hX (pc := 9) (v := 255) dJ1_charAt_3b067_9 (by decide) ?_
  refine g_iand hX (pc := 12) dJ1_charAt_3b067_12 ?_
  refine g_i2c hX (pc := 13) dJ1_charAt_3b067_13 ?_
  rw [toNat_nI (by omega)]
  exact g_nreturn hX (strC_ok hi hj) (Nat.le_refl _) (Nat.le_refl _) dJ1_charAt_3b067_14
set_option maxRecDepth 100000 in
theorem c_charAt (hE : EvOk E ad av) {i j : Nat} (hi : i < 4) (hj : j < strN.getD i 0) : Ct E (d + 3) yJ0_charAt_5068e cJ0_charAt_5068e 2 (some .char) 0 0 [.ref (ad i), .int (nI j)] z J I (some (.int (strC i j))) z J I := by
  refine Ct.of (own := RJ0) (ls := [(0, .ref (ad i)), (1, .int (nI j))]) (by decide) rfl (Nat.le_of_ble_eq_true rfl) rfl ?_
  intro X hr0 hnm hX
  refine g_aload_n hX (pc := 0) (i := 0) dJ0_charAt_5068e_0 rfl 0 rfl ?_
  refine g_callVS hE hX (pc := 1) (d := d + 2) hr0 [] hi (c_isLatin1 hE hi) co_J0_isLatin1_aae02 ml_J0_492 im_J0_isLatin1_aae02 sl_J0_isLatin1_aae02 ini_J0 nm_J0_isLatin1 (by decide) ⟨Nat.le_refl _, Nat.le_refl _⟩ (Nat.le_refl _) (Nat.le_of_ble_eq_true rfl) rfl dJ0_charAt_5068e_1 ?_
  refine g_if_eq hX (pc := 4) dJ0_charAt_5068e_4 (tgt := 16) (by decide) (fun c => absurd c (by decide)) (fun c => ?_)
  refine g_aload_n hX (pc := 7) (i := 0) dJ0_charAt_5068e_7 rfl 0 rfl ?_
  refine g_getSv hE hX (pc := 8) hi fl_J0_9 dJ0_charAt_5068e_8 ?_
  refine g_iload_n hX (pc := 11) (i := 1) dJ0_charAt_5068e_11 rfl 1 rfl ?_
  refine g_callSi hX (pc := 12) (d := d + 2) hr0 [.ref (av i), .int (nI j)] (c_l1charAt hE hi hj) co_J1_charAt_3b067 ml_J0_495 sta_J1_charAt_3b067 ini_J1 nm_J1_charAt (by decide) ⟨Nat.le_refl _, Nat.le_refl _⟩ (Nat.le_refl _) (Nat.le_of_ble_eq_true rfl) rfl dJ0_charAt_5068e_12 ?_
  exact g_nreturn hX (strC_ok hi hj) (Nat.le_refl _) (Nat.le_refl _) dJ0_charAt_5068e_15
/-- a constant as a number of base 32 -/
def splN (i : Nat) : Nat → Int64
  | 0 => 0
  | j + 1 => (splN i j <<< ((5 : Int32).toInt64 &&& 63)) ||| ((strC i j).toInt64 - 96)
noncomputable def f_X5_spelled (x0 : Nat) : Option Int64 := if x0 < 4 then some (splN x0 (strN.getD x0 0)) else none
theorem nm_X5_spelled : yX5_spelled.cls ≠ "java/lang/invoke/MethodHandle" ∧ yX5_spelled.cls ≠ "java/lang/invoke/VarHandle" ∧ (parseMethodDescriptor yX5_spelled.desc).map (fun d => d.parameters.length) = some 1 := by decide +kernel
set_option maxRecDepth 100000 in
set_option maxHeartbeats 4000000 in
theorem ct_X5_spelled {x0 : Nat} {rr : Int64} (h : f_X5_spelled x0 = some rr) (hE : EvOk E ad av) : Ct E (d + 4) yX5_spelled cX5_spelled 4 (some .long) 0 0 [.ref (ad x0)] z J I (some (.long rr)) z J I := by
  unfold f_X5_spelled at h
  by_cases hi : x0 < 4
  · rw [if_pos hi] at h
    obtain rfl := Option.some.inj h
    have h5 := strN_le hi
    refine Ct.of (own := RX5) (ls := [(0, .ref (ad x0))]) (by decide) rfl (Nat.le_of_ble_eq_true rfl) rfl ?_
    intro X hr0 hnm hX
    refine g_lconst hX (pc := 0) (v := 0) dX5_spelled_0 (by decide) ?_
    refine g_lstore_n hX (pc := 1) (i := 1) (ls' := [(0, .ref (ad x0)), (1, .long 0)]) [1, 0] dX5_spelled_1 rfl (by decide) rfl ?_
    refine g_iconst hX (pc := 2) (v := 0) dX5_spelled_2 (by decide) ?_
    refine g_istore_n hX (pc := 3) (i := 3) (ls' := [(0, .ref (ad x0)), (1, .long 0), (3, .int 0)]) [1, 2, 0] dX5_spelled_3 rfl (by decide) rfl ?_
    have L : ∀ k j : Nat, j + k = strN.getD x0 0 → GW E X (QX E X 0 0 (some (.long (splN x0 (strN.getD x0 0)))) z J I) 4 4 [(0, .ref (ad x0)), (1, .long (splN x0 j)), (3, .int (nI j))] [] z J I 0 0 := by
      intro k
      induction k with
      | zero =>
        intro j hj
        refine g_iload_n hX (pc := 4) (i := 3) dX5_spelled_4 rfl 2 rfl ?_
        refine g_aload_n hX (pc := 5) (i := 0) dX5_spelled_5 rfl 0 rfl ?_
        refine g_callVS hE hX (pc := 6) (d := d + 3) hr0 [] hi (c_length (d := d + 2) hE hi) co_J0_length_8abf5 ml_X5_139 im_J0_length_8abf5 sl_J0_length_8abf5 ini_J0 nm_J0_length (by decide) ⟨Nat.le_refl _, Nat.le_refl _⟩ (Nat.le_refl _) (Nat.le_of_ble_eq_true rfl) rfl dX5_spelled_6 ?_
        refine g_icmp_ge hX (pc := 9) dX5_spelled_9 (tgt := 33) (by decide) (fun c => ?_) (fun c => ?_)
        · exact absurd c (nI_nlt (show strN.getD x0 0 ≤ j by omega) (by omega))
        · refine g_lload_n hX (pc := 33) (i := 1) dX5_spelled_33 rfl 1 rfl ?_
          rw [show j = strN.getD x0 0 by omega]
          exact g_lreturn hX (Nat.le_refl _) (Nat.le_refl _) dX5_spelled_34
      | succ k ih =>
        intro j hj
        refine g_iload_n hX (pc := 4) (i := 3) dX5_spelled_4 rfl 2 rfl ?_
        refine g_aload_n hX (pc := 5) (i := 0) dX5_spelled_5 rfl 0 rfl ?_
        refine g_callVS hE hX (pc := 6) (d := d + 3) hr0 [] hi (c_length (d := d + 2) hE hi) co_J0_length_8abf5 ml_X5_139 im_J0_length_8abf5 sl_J0_length_8abf5 ini_J0 nm_J0_length (by decide) ⟨Nat.le_refl _, Nat.le_refl _⟩ (Nat.le_refl _) (Nat.le_of_ble_eq_true rfl) rfl dX5_spelled_6 ?_
        refine g_icmp_ge hX (pc := 9) dX5_spelled_9 (tgt := 33) (by decide) (fun c => ?_) (fun c => ?_)
        · refine g_lload_n hX (pc := 12) (i := 1) dX5_spelled_12 rfl 1 rfl ?_
          refine g_iconst hX (pc := 13) (v := 5) dX5_spelled_13 (by decide) ?_
          refine g_lshl hX (pc := 14) dX5_spelled_14 ?_
          refine g_aload_n hX (pc := 15) (i := 0) dX5_spelled_15 rfl 0 rfl ?_
          refine g_iload_n hX (pc := 16) (i := 3) dX5_spelled_16 rfl 2 rfl ?_
          refine g_callVS hE hX (pc := 17) (d := d + 3) hr0 [.int (nI j)] hi (c_charAt (d := d) (j := j) hE hi (by omega)) co_J0_charAt_5068e ml_X5_145 im_J0_charAt_5068e sl_J0_charAt_5068e ini_J0 nm_J0_charAt (by decide) ⟨Nat.le_refl _, Nat.le_refl _⟩ (Nat.le_refl _) (Nat.le_of_ble_eq_true rfl) rfl dX5_spelled_17 ?_
          refine g_i2l hX (pc := 20) dX5_spelled_20 ?_
          refine g_ldc2 hX (pc := 21) cst_X5_127 dX5_spelled_21 ?_
          refine g_lsub hX (pc := 24) dX5_spelled_24 ?_
          refine g_lor hX (pc := 25) dX5_spelled_25 ?_
          refine g_lstore_n hX (pc := 26) (i := 1) (ls' := [(0, .ref (ad x0)), (1, .long (splN x0 (j + 1))), (3, .int (nI j))]) [1, 0, 2] dX5_spelled_26 rfl (by decide) rfl ?_
          refine g_iinc hX (pc := 27) (i := 3) (v := nI (j + 1)) (ls' := [(0, .ref (ad x0)), (1, .long (splN x0 (j + 1))), (3, .int (nI (j + 1)))]) 2 [1, 2, 0] dX5_spelled_27 rfl (nI_1 j) (by decide) rfl ?_
          refine g_goto hX (pc := 30) (tgt := 4) dX5_spelled_30 (by decide) ?_
          exact ih (j + 1) (by omega)
        · exact absurd (nI_lt (show j < strN.getD x0 0 by omega) (by omega)) c
    exact L (strN.getD x0 0) 0 (by omega)
  · rw [if_neg hi] at h; cases h
end StrM
