/-! calls by contract -/
section Calls
variable {E : Ev} {X : Xt} {Q : State → Prop} {n : Nat} {pc : Nat} {ls : List (Nat × Value)} {st stk : List Value} {z z' : Sh} {J J' : MJ} {I I' : MI} {uc us : Nat} {cc : ByteArray} {ret : Option FieldType} {own : String}
  {d mc ms MC MS maxL index : Nat} {y : MethodName} {bytes : ByteArray} {rt : Option FieldType} {o : Option Value}
theorem Rel.step {H H1 : Heap} {locs L : List Loc} (hX : Cx E X cc n ret own) (hR : Rel E z J I H) (hS : va_S (aB E) (xS X).heap H locs) (hR1 : Rel E z' J' I' H1) (hz : zs z ≤ zs z') (hL : ∀ q ∈ L, aB E q.base) : va_S (aB E) (xS X).heap H1 (locs ++ L) := by
  refine ⟨Nat.le_trans hS.1 (by rw [hR.1, hR1.1]; exact hz), fun q h1 h2 => ?_, fun q hq => (List.mem_append.mp hq).elim (hS.2.2 q) (hL q)⟩
  have hq : q < eB E := Nat.not_le.mp h2
  rw [hR1.2.2.1 q hq, hX.bb.2 q hq]
theorem g_ran (hX : Cx E X cc n ret own) (hz : zs z ≤ zs z') {a : Array Value} {lsA : Array Slot} {H : Heap} {locs : List Loc} (hR : Rel E z J I H) (hS : va_S (aB E) (xS X).heap H locs) (hl : lv_has lsA n ls)
    (run : va_Run X.1 E.1 X.2.1 X.2.2.1 (xS X) (xM X) (xA X) (xB X) (xH X) (xC X) H locs uc us mc ms (F0 (xM X) pc lsA stk) st (Qc E o z' J' I' a) (aB E))
    (kk : GW E X Q n (pc + 3) ls (o.toList ++ st) z' J' I' (uc + mc) (us + ms)) : WX E X H locs uc us Q (F0 (xM X) pc lsA stk) := by
  intro T hT Xs
  obtain ⟨v, st0, t, T', L, h0, X', hL2, e1, e2, ⟨hv, hR1⟩, go⟩ := run T hT Xs
  cases hv
  obtain ⟨t2, a1, b1⟩ := kk t.heap (locs ++ L) lsA hR1 (Rel.step hX hR hS hR1 hz hL2) hl T' e1 X'
  exact ⟨t2, go t2 a1, b1⟩
theorem room_le (h : RmOk X (d + 1) MC MS) (hL : maxL ≤ 45) : (rmD d mc ms).frames + 1 ≤ X.2.2.1.frames ∧ 8 + (maxL + 11) + (rmD d mc ms).locals ≤ X.2.2.1.locals := by
  obtain ⟨h1, h2, -, -⟩ := h
  simp only [rmD]
  omega
theorem g_callS (hX : Cx E X cc n ret own) (hr0 : RmOk X (d + 1) MC MS) (As : List Value) (hct : Ct E d y bytes maxL rt mc ms As z J I o z' J' I') (hco : Cond.code y bytes maxL rt ∈ wU) (hml : Cond.methodLink own index y ∈ wU) (hsta : Cond.static y ∈ wU) (hini : Cond.initialized y.cls ∈ wU)
    (hnm : y.cls ≠ "java/lang/invoke/MethodHandle" ∧ y.cls ≠ "java/lang/invoke/VarHandle" ∧ (parseMethodDescriptor y.desc).map (fun d => d.parameters.length) = some As.length) (hL : maxL ≤ 45) (hu : uc + mc ≤ MC ∧ us + ms ≤ MS) (hz : zs z ≤ zs z') (hcat : (st.map fun v => v.category).sum ≤ 8) (hstk : stk = As.reverse ++ st) (hd : decode cc pc = .ok (.invokestatic index, 3))
    (kk : GW E X Q n (pc + 3) ls (o.toList ++ st) z' J' I' (uc + mc) (us + ms)) : GW E X Q n pc ls stk z J I uc us := by
  intro H locs lsA hR hS hl
  exact g_ran hX hz hR hS hl (va_runS (As := As) (rest := st) ⟨hX.ex, hX.cd, hX.ml, hX.ow, hX.ht⟩ hct ⟨callB_of As.length hX.ht (good_mW hco) rfl rfl rfl (hX.ht _ hini) (hX.ht _ hml) hnm (room_le hr0 hL), hX.ht _ hsta⟩ ⟨Ct.blind, fun U hU hW => ⟨rfl, by rw [hU]; exact hR, hX.kw.warm hW⟩⟩ rfl rfl hl.1 hstk (lv_room hcat) hd ⟨Nat.le_trans hu.1 hr0.2.2.1, Nat.le_trans hu.2 hr0.2.2.2⟩) kk
theorem g_callSN (hX : Cx E X cc n ret own) (hr0 : RmOk X (d + 1) MC MS) (As : List Value) {host : String} (hct : Ct E d y bytes maxL rt mc ms As z J I o z' J' I') (hco : Cond.code y bytes maxL rt ∈ wU) (hnl : (own, index, y, host) ∈ nestL) (hsta : Cond.static y ∈ wU) (hini : Cond.initialized y.cls ∈ wU)
    (hnm : y.cls ≠ "java/lang/invoke/MethodHandle" ∧ y.cls ≠ "java/lang/invoke/VarHandle" ∧ (parseMethodDescriptor y.desc).map (fun d => d.parameters.length) = some As.length) (hL : maxL ≤ 45) (hu : uc + mc ≤ MC ∧ us + ms ≤ MS) (hz : zs z ≤ zs z') (hcat : (st.map fun v => v.category).sum ≤ 8) (hstk : stk = As.reverse ++ st) (hd : decode cc pc = .ok (.invokestatic index, 3))
    (kk : GW E X Q n (pc + 3) ls (o.toList ++ st) z' J' I' (uc + mc) (us + ms)) : GW E X Q n pc ls stk z J I uc us := by
  intro H locs lsA hR hS hl
  exact g_ran hX hz hR hS hl (va_runSN (As := As) (rest := st) ⟨hX.ex, hX.cd, hX.ml, hX.ow, hX.ht⟩ hct ⟨va_cnB As.length hX.ht (good_mW hco) rfl rfl rfl (hX.kw.2.1 _ hnl) (hX.ht _ hini) hnm (room_le hr0 hL), hX.ht _ hsta, trivial⟩ ⟨Ct.blind, fun U hU hW => ⟨rfl, by rw [hU]; exact hR, hX.kw.warm hW⟩⟩ rfl rfl hl.1 hstk (lv_room hcat) hd ⟨Nat.le_trans hu.1 hr0.2.2.1, Nat.le_trans hu.2 hr0.2.2.2⟩) kk
theorem g_callV (hX : Cx E X cc n ret own) (hr0 : RmOk X (d + 1) MC MS) (As : List Value) {C : String} {T : u_T} {N c b : Nat} (hct : Ct E d y bytes maxL rt mc ms (.ref b :: As) z J I o z' J' I') (hb : b ∈ zL z) (hk : zK z b = c) (hc6 : c < 6) (hc : vwCl[c]? = some (C, T, N)) (hco : Cond.code y bytes maxL rt ∈ wU) (hml : Cond.methodLink own index y ∈ wU) (him : Cond.instanceMethod y ∈ wU) (hsl : Cond.selects C y y ∈ wU) (hini : Cond.initialized y.cls ∈ wU)
    (hnm : y.cls ≠ "java/lang/invoke/MethodHandle" ∧ y.cls ≠ "java/lang/invoke/VarHandle" ∧ (parseMethodDescriptor y.desc).map (fun d => d.parameters.length) = some As.length) (hL : maxL ≤ 45) (hu : uc + mc ≤ MC ∧ us + ms ≤ MS) (hz : zs z ≤ zs z') (hcat : (st.map fun v => v.category).sum ≤ 8) (hstk : stk = As.reverse ++ .ref b :: st) (hd : decode cc pc = .ok (.invokevirtual index, 3))
    (kk : GW E X Q n (pc + 3) ls (o.toList ++ st) z' J' I' (uc + mc) (us + ms)) : GW E X Q n pc ls stk z J I uc us := by
  intro H locs lsA hR hS hl
  exact g_ran hX hz hR hS hl (va_runV (As := As) (rest := st) ⟨hX.ex, hX.cd, hX.ml, hX.ow, hX.ht⟩ hct ⟨callB_of As.length hX.ht (good_mW hco) rfl rfl rfl (hX.ht _ hini) (hX.ht _ hml) hnm (room_le hr0 hL), hX.ht _ him, hX.ht _ hsl⟩ ⟨Ct.blind, va_recv hX.kk (hR.one hb (cE_o hk hc6)) hc (q0 := 0) rfl, fun U hU hW => ⟨rfl, by rw [hU]; exact hR, hX.kw.warm hW⟩⟩ rfl rfl hl.1 hstk (lv_room hcat) hd ⟨Nat.le_trans hu.1 hr0.2.2.1, Nat.le_trans hu.2 hr0.2.2.2⟩) kk
theorem g_callI (hX : Cx E X cc n ret own) (hr0 : RmOk X (d + 1) MC MS) (As : List Value) {b : Nat} (hct : Ct E d y bytes maxL none mc ms (.ref b :: As) z J I none z' J' I') (hy : y.name = "<init>") (hco : Cond.code y bytes maxL none ∈ wU) (hml : Cond.methodLink own index y ∈ wU) (him : Cond.instanceMethod y ∈ wU) (hini : Cond.initialized y.cls ∈ wU)
    (hnm : y.cls ≠ "java/lang/invoke/MethodHandle" ∧ y.cls ≠ "java/lang/invoke/VarHandle" ∧ (parseMethodDescriptor y.desc).map (fun d => d.parameters.length) = some As.length) (hL : maxL ≤ 45) (hu : uc + mc ≤ MC ∧ us + ms ≤ MS) (hz : zs z ≤ zs z') (hcat : (st.map fun v => v.category).sum ≤ 8) (hstk : stk = As.reverse ++ .ref b :: st) (hd : decode cc pc = .ok (.invokespecial index, 3))
    (kk : GW E X Q n (pc + 3) ls st z' J' I' (uc + mc) (us + ms)) : GW E X Q n pc ls stk z J I uc us := by
  intro H locs lsA hR hS hl
  exact g_ran (o := none) hX hz hR hS hl (va_runI (As := As) (rest := st) ⟨hX.ex, hX.cd, hX.ml, hX.ow, hX.ht⟩ hct ⟨callB_of As.length hX.ht (good_mW hco) rfl rfl rfl (hX.ht _ hini) (hX.ht _ hml) hnm (room_le hr0 hL), hy, hX.ht _ him⟩ ⟨Ct.blind, fun U hU hW => ⟨rfl, by rw [hU]; exact hR, hX.kw.warm hW⟩⟩ rfl rfl hl.1 hstk (lv_room hcat) hd ⟨Nat.le_trans hu.1 hr0.2.2.1, Nat.le_trans hu.2 hr0.2.2.2⟩) kk
theorem g_callIN (hX : Cx E X cc n ret own) (hr0 : RmOk X (d + 1) MC MS) (As : List Value) {b : Nat} {host : String} (hct : Ct E d y bytes maxL none mc ms (.ref b :: As) z J I none z' J' I') (hy : y.name = "<init>") (hco : Cond.code y bytes maxL none ∈ wU) (hnl : (own, index, y, host) ∈ nestL) (him : Cond.instanceMethod y ∈ wU) (hini : Cond.initialized y.cls ∈ wU)
    (hnm : y.cls ≠ "java/lang/invoke/MethodHandle" ∧ y.cls ≠ "java/lang/invoke/VarHandle" ∧ (parseMethodDescriptor y.desc).map (fun d => d.parameters.length) = some As.length) (hL : maxL ≤ 45) (hu : uc + mc ≤ MC ∧ us + ms ≤ MS) (hz : zs z ≤ zs z') (hcat : (st.map fun v => v.category).sum ≤ 8) (hstk : stk = As.reverse ++ .ref b :: st) (hd : decode cc pc = .ok (.invokespecial index, 3))
    (kk : GW E X Q n (pc + 3) ls st z' J' I' (uc + mc) (us + ms)) : GW E X Q n pc ls stk z J I uc us := by
  intro H locs lsA hR hS hl
  exact g_ran (o := none) hX hz hR hS hl (va_runIN (As := As) (rest := st) ⟨hX.ex, hX.cd, hX.ml, hX.ow, hX.ht⟩ hct ⟨va_cnB As.length hX.ht (good_mW hco) rfl rfl rfl (hX.kw.2.1 _ hnl) (hX.ht _ hini) hnm (room_le hr0 hL), hy, hX.ht _ him⟩ ⟨Ct.blind, fun U hU hW => ⟨rfl, by rw [hU]; exact hR, hX.kw.warm hW⟩⟩ rfl rfl hl.1 hstk (lv_room hcat) hd ⟨Nat.le_trans hu.1 hr0.2.2.1, Nat.le_trans hu.2 hr0.2.2.2⟩) kk
theorem g_objInit (hX : Cx E X cc n ret own) (hr0 : RmOk X (d + 1) MC MS) {b : Nat} (hml : Cond.methodLink own index Lib.objectInit ∈ wU) (him : Cond.instanceMethod Lib.objectInit ∈ wU) (hco : Cond.code Lib.objectInit ⟨#[0xb1]⟩ 1 none ∈ wU) (hcat : (st.map fun v => v.category).sum ≤ 8) (hd : decode cc pc = .ok (.invokespecial index, 3))
    (kk : GW E X Q n (pc + 3) ls st z J I uc us) : GW E X Q n pc ls (.ref b :: st) z J I uc us := by
  intro H locs lsA hR hS hl
  refine W.objInit hX.ex hX.cd hX.ow (hX.ht _ hml) (hX.ht _ him) (hX.ht _ hco) rfl (hl.1.trans hX.ml.symm) rfl hd (Nat.le_trans (by omega) hr0.1) ?_ (kk H locs lsA hR hS hl)
  have h1 : 2 * (F0 (xM X) pc lsA (.ref b :: st)).monitorRoom = 0 := rfl
  have h2 := hr0.2.1
  omega
end Calls
