/-! THE CLAIM OUT OF ONE WALK OF THE LAW'S BODY. Your part is whole_start (and what it stands on); all else here is the same for every law, but numbers. -/
def R_law : String := "WaveWallLaw"
def lw_P (b : Addr) (xs : List Int32) (args : Array Value) (s : State) : Prop := args = #[.ref b] ∧ s.IntsAt b xs ∧ xs.length ≤ 3072 ∧ (Jvm.Cond.and given_1 narrow_1).before args s = true
def lw_Q (_ : Array Value) (s : State) (o : Outcome) (t : State) : Prop := o = .returned (some (.int 1)) ∧ Framed s o t [] 601024 7293034
def lw_Z (below : List Frame) (a : Array Value) (s : State) : State → Prop := fun t => ∃ o, t.status = .running ∧ Ended t below o ∧ lw_Q a s o t
/-- the law's own end, with 1 on the stack, nothing written that was there before, its room as the claim has it -/
theorem lw_ret {p : Program} {l : Launch} {e : Env} {s : State} {m : MethodId} {below : List Frame} {meth : Method} {c : Code} {b : Nat} (hx : p.tables.exec = Jvm.exec) (hb : c.code = code) (hr : meth.sig.returnType = ret) (hlocks : meth.locks = false) {pc : Nat} {H : Heap} {ls : Array Slot} (hdg : decode code pc = .ok (.ireturn, 1)) : W p l e room_1 s m #[Value.ref b] below meth c H [] 601024 7293034 (lw_Z below #[Value.ref b] s) (F0 m pc ls [.int 1]) := by
  intro T hT X
  obtain ⟨fs, hret, hrun, hended, hW, hframe⟩ := X.leave (v := some (.int 1)) (hlocks := hlocks) (fun h => by rw [hr] at h; cases h)
  have hmeth' : T.vm.method? m = some meth := X.method'
  refine ⟨T.setFrames fs, ?_, .returned (some (.int 1)), hrun, hended, rfl, ⟨_, rfl⟩, hW, hframe⟩
  jvm_step X.here [X.here.top, hx, hb, hdg, hmeth', hr, ret, narrow_b1]
  (try refine ⟨rfl, ?_⟩); (try refine ⟨rfl, ?_⟩)
  first | (intro acts; rw [hret _ acts rfl rfl rfl]) | rw [hret _ _ rfl rfl rfl]
  exact Steps.refl _
/-- what holds at the law's entry: the machine, the code, the tables' words (any of lw_tbl by 'hts w (by decide +kernel)'), the script of L ints xs at the cell b, what the Statement gives of the start (any of its parts by flat_of_before) -/
def lw_At (p : Program) (s : State) (m : MethodId) (meth : Method) (c : Code) (b L : Nat) (xs : Nat → Int32) : Prop :=
  p.tables.exec = Jvm.exec ∧ c.code = code ∧ meth.sig.returnType = ret ∧ c.maxLocals = 7 ∧ s.vm.findClass R_law = some m.cls ∧ (∀ w ∈ lw_tbl, w.before #[Value.ref b] s = true) ∧ va_X b L xs s s.heap ∧ b < s.heap.size ∧ meth.locks = false ∧ (Jvm.Cond.and given_1 narrow_1).before #[Value.ref b] s = true

/-- the string constants of the reference, as terms -/
def tmS (i : Nat) : Term := match i with
  | 0 => .string "WaveWallModel" 153
  | 1 => .string "WaveWallModel" 158
  | 2 => .string "WaveWallModel" 160
  | _ => .string "WaveWallModel" 162
theorem four {i : Nat} (h : i < 4) : i = 0 ∨ i = 1 ∨ i = 2 ∨ i = 3 := by omega
/-- a condition of the start, by name -/
theorem fl_in {c : Cond} (h : c ∈ flatC (Jvm.Cond.and given_1 narrow_1)) {args : Array Value} {s : State} (hs : (Jvm.Cond.and given_1 narrow_1).before args s = true) : c.before args s = true := flat_of_before _ hs c h
theorem st_ex0 : Cond.exactly (tmS 0) "java/lang/String" ∈ flatC (Jvm.Cond.and given_1 narrow_1) := by decide +kernel
theorem st_co0 : Cond.eq (.field (tmS 0) "java/lang/String" "coder" "B") (.int 0) ∈ flatC (Jvm.Cond.and given_1 narrow_1) := by decide +kernel
theorem st_ar0 : Cond.arrayOf (.field (tmS 0) "java/lang/String" "value" "[B") .byte ∈ flatC (Jvm.Cond.and given_1 narrow_1) := by decide +kernel
theorem st_le0 : Cond.eq (.length (.field (tmS 0) "java/lang/String" "value" "[B")) (.int (Int32.ofNat 5)) ∈ flatC (Jvm.Cond.and given_1 narrow_1) := by decide +kernel
theorem st_el0_0 : (Cond.eq (.elem (.field (tmS 0) "java/lang/String" "value" "[B") (.int (Int32.ofNat 0))) (.int 104)) ∈ flatC (Jvm.Cond.and given_1 narrow_1) := by decide +kernel
theorem st_el0_1 : (Cond.eq (.elem (.field (tmS 0) "java/lang/String" "value" "[B") (.int (Int32.ofNat 1))) (.int 111)) ∈ flatC (Jvm.Cond.and given_1 narrow_1) := by decide +kernel
theorem st_el0_2 : (Cond.eq (.elem (.field (tmS 0) "java/lang/String" "value" "[B") (.int (Int32.ofNat 2))) (.int 108)) ∈ flatC (Jvm.Cond.and given_1 narrow_1) := by decide +kernel
theorem st_el0_3 : (Cond.eq (.elem (.field (tmS 0) "java/lang/String" "value" "[B") (.int (Int32.ofNat 3))) (.int 101)) ∈ flatC (Jvm.Cond.and given_1 narrow_1) := by decide +kernel
theorem st_el0_4 : (Cond.eq (.elem (.field (tmS 0) "java/lang/String" "value" "[B") (.int (Int32.ofNat 4))) (.int 115)) ∈ flatC (Jvm.Cond.and given_1 narrow_1) := by decide +kernel
theorem st_ex1 : Cond.exactly (tmS 1) "java/lang/String" ∈ flatC (Jvm.Cond.and given_1 narrow_1) := by decide +kernel
theorem st_co1 : Cond.eq (.field (tmS 1) "java/lang/String" "coder" "B") (.int 0) ∈ flatC (Jvm.Cond.and given_1 narrow_1) := by decide +kernel
theorem st_ar1 : Cond.arrayOf (.field (tmS 1) "java/lang/String" "value" "[B") .byte ∈ flatC (Jvm.Cond.and given_1 narrow_1) := by decide +kernel
theorem st_le1 : Cond.eq (.length (.field (tmS 1) "java/lang/String" "value" "[B")) (.int (Int32.ofNat 4)) ∈ flatC (Jvm.Cond.and given_1 narrow_1) := by decide +kernel
theorem st_el1_0 : (Cond.eq (.elem (.field (tmS 1) "java/lang/String" "value" "[B") (.int (Int32.ofNat 0))) (.int 119)) ∈ flatC (Jvm.Cond.and given_1 narrow_1) := by decide +kernel
theorem st_el1_1 : (Cond.eq (.elem (.field (tmS 1) "java/lang/String" "value" "[B") (.int (Int32.ofNat 1))) (.int 97)) ∈ flatC (Jvm.Cond.and given_1 narrow_1) := by decide +kernel
theorem st_el1_2 : (Cond.eq (.elem (.field (tmS 1) "java/lang/String" "value" "[B") (.int (Int32.ofNat 2))) (.int 118)) ∈ flatC (Jvm.Cond.and given_1 narrow_1) := by decide +kernel
theorem st_el1_3 : (Cond.eq (.elem (.field (tmS 1) "java/lang/String" "value" "[B") (.int (Int32.ofNat 3))) (.int 101)) ∈ flatC (Jvm.Cond.and given_1 narrow_1) := by decide +kernel
theorem st_ex2 : Cond.exactly (tmS 2) "java/lang/String" ∈ flatC (Jvm.Cond.and given_1 narrow_1) := by decide +kernel
theorem st_co2 : Cond.eq (.field (tmS 2) "java/lang/String" "coder" "B") (.int 0) ∈ flatC (Jvm.Cond.and given_1 narrow_1) := by decide +kernel
theorem st_ar2 : Cond.arrayOf (.field (tmS 2) "java/lang/String" "value" "[B") .byte ∈ flatC (Jvm.Cond.and given_1 narrow_1) := by decide +kernel
theorem st_le2 : Cond.eq (.length (.field (tmS 2) "java/lang/String" "value" "[B")) (.int (Int32.ofNat 4)) ∈ flatC (Jvm.Cond.and given_1 narrow_1) := by decide +kernel
theorem st_el2_0 : (Cond.eq (.elem (.field (tmS 2) "java/lang/String" "value" "[B") (.int (Int32.ofNat 0))) (.int 105)) ∈ flatC (Jvm.Cond.and given_1 narrow_1) := by decide +kernel
theorem st_el2_1 : (Cond.eq (.elem (.field (tmS 2) "java/lang/String" "value" "[B") (.int (Int32.ofNat 1))) (.int 116)) ∈ flatC (Jvm.Cond.and given_1 narrow_1) := by decide +kernel
theorem st_el2_2 : (Cond.eq (.elem (.field (tmS 2) "java/lang/String" "value" "[B") (.int (Int32.ofNat 2))) (.int 101)) ∈ flatC (Jvm.Cond.and given_1 narrow_1) := by decide +kernel
theorem st_el2_3 : (Cond.eq (.elem (.field (tmS 2) "java/lang/String" "value" "[B") (.int (Int32.ofNat 3))) (.int 109)) ∈ flatC (Jvm.Cond.and given_1 narrow_1) := by decide +kernel
theorem st_ex3 : Cond.exactly (tmS 3) "java/lang/String" ∈ flatC (Jvm.Cond.and given_1 narrow_1) := by decide +kernel
theorem st_co3 : Cond.eq (.field (tmS 3) "java/lang/String" "coder" "B") (.int 0) ∈ flatC (Jvm.Cond.and given_1 narrow_1) := by decide +kernel
theorem st_ar3 : Cond.arrayOf (.field (tmS 3) "java/lang/String" "value" "[B") .byte ∈ flatC (Jvm.Cond.and given_1 narrow_1) := by decide +kernel
theorem st_le3 : Cond.eq (.length (.field (tmS 3) "java/lang/String" "value" "[B")) (.int (Int32.ofNat 5)) ∈ flatC (Jvm.Cond.and given_1 narrow_1) := by decide +kernel
theorem st_el3_0 : (Cond.eq (.elem (.field (tmS 3) "java/lang/String" "value" "[B") (.int (Int32.ofNat 0))) (.int 111)) ∈ flatC (Jvm.Cond.and given_1 narrow_1) := by decide +kernel
theorem st_el3_1 : (Cond.eq (.elem (.field (tmS 3) "java/lang/String" "value" "[B") (.int (Int32.ofNat 1))) (.int 114)) ∈ flatC (Jvm.Cond.and given_1 narrow_1) := by decide +kernel
theorem st_el3_2 : (Cond.eq (.elem (.field (tmS 3) "java/lang/String" "value" "[B") (.int (Int32.ofNat 2))) (.int 100)) ∈ flatC (Jvm.Cond.and given_1 narrow_1) := by decide +kernel
theorem st_el3_3 : (Cond.eq (.elem (.field (tmS 3) "java/lang/String" "value" "[B") (.int (Int32.ofNat 3))) (.int 101)) ∈ flatC (Jvm.Cond.and given_1 narrow_1) := by decide +kernel
theorem st_el3_4 : (Cond.eq (.elem (.field (tmS 3) "java/lang/String" "value" "[B") (.int (Int32.ofNat 4))) (.int 114)) ∈ flatC (Jvm.Cond.and given_1 narrow_1) := by decide +kernel
theorem st_ne01 : Cond.not (Cond.eq (tmS 0) (tmS 1)) ∈ flatC (Jvm.Cond.and given_1 narrow_1) := by decide +kernel
theorem st_ne02 : Cond.not (Cond.eq (tmS 0) (tmS 2)) ∈ flatC (Jvm.Cond.and given_1 narrow_1) := by decide +kernel
theorem st_ne03 : Cond.not (Cond.eq (tmS 0) (tmS 3)) ∈ flatC (Jvm.Cond.and given_1 narrow_1) := by decide +kernel
theorem st_ne12 : Cond.not (Cond.eq (tmS 1) (tmS 2)) ∈ flatC (Jvm.Cond.and given_1 narrow_1) := by decide +kernel
theorem st_ne13 : Cond.not (Cond.eq (tmS 1) (tmS 3)) ∈ flatC (Jvm.Cond.and given_1 narrow_1) := by decide +kernel
theorem st_ne23 : Cond.not (Cond.eq (tmS 2) (tmS 3)) ∈ flatC (Jvm.Cond.and given_1 narrow_1) := by decide +kernel
theorem st_strings {args : Array Value} {s : State} {A : Nat → Prop} (hgv : (Jvm.Cond.and given_1 narrow_1).before args s = true) (hA : ∀ a : Nat, a < s.heap.size → ¬ A a) : ∃ adK adV : Nat → Nat, vk_S 4 strN strB adK adV A s s.heap ∧ ∀ i : Nat, i < 4 → (tmS i).eval args s none [] s = some (.ref (adK i)) := by
  refine vk_Sof (N := 4) (tm := tmS) (len := strN) (byt := strB) (fun i hi => ?_) (fun i hi => ?_) (fun i hi => ?_) (fun i hi => ?_) (fun i hi => ?_) (fun i hi j hj => ?_) (fun i j hi hj hij => ?_) hA
  · exact Nat.lt_of_le_of_lt (strN_le hi) (by decide)
  · rcases four hi with rfl | rfl | rfl | rfl
    · exact fl_in st_ex0 hgv
    · exact fl_in st_ex1 hgv
    · exact fl_in st_ex2 hgv
    · exact fl_in st_ex3 hgv
  · rcases four hi with rfl | rfl | rfl | rfl
    · exact fl_in st_co0 hgv
    · exact fl_in st_co1 hgv
    · exact fl_in st_co2 hgv
    · exact fl_in st_co3 hgv
  · rcases four hi with rfl | rfl | rfl | rfl
    · exact fl_in st_ar0 hgv
    · exact fl_in st_ar1 hgv
    · exact fl_in st_ar2 hgv
    · exact fl_in st_ar3 hgv
  · rcases four hi with rfl | rfl | rfl | rfl
    · exact fl_in st_le0 hgv
    · exact fl_in st_le1 hgv
    · exact fl_in st_le2 hgv
    · exact fl_in st_le3 hgv
  · rcases four hi with rfl | rfl | rfl | rfl
    · rcases (show j = 0 ∨ j = 1 ∨ j = 2 ∨ j = 3 ∨ j = 4 by simp only [strN, List.getD_cons_zero, List.getD_cons_succ] at hj; omega) with rfl | rfl | rfl | rfl | rfl
      · exact fl_in st_el0_0 hgv
      · exact fl_in st_el0_1 hgv
      · exact fl_in st_el0_2 hgv
      · exact fl_in st_el0_3 hgv
      · exact fl_in st_el0_4 hgv
    · rcases (show j = 0 ∨ j = 1 ∨ j = 2 ∨ j = 3 by simp only [strN, List.getD_cons_zero, List.getD_cons_succ] at hj; omega) with rfl | rfl | rfl | rfl
      · exact fl_in st_el1_0 hgv
      · exact fl_in st_el1_1 hgv
      · exact fl_in st_el1_2 hgv
      · exact fl_in st_el1_3 hgv
    · rcases (show j = 0 ∨ j = 1 ∨ j = 2 ∨ j = 3 by simp only [strN, List.getD_cons_zero, List.getD_cons_succ] at hj; omega) with rfl | rfl | rfl | rfl
      · exact fl_in st_el2_0 hgv
      · exact fl_in st_el2_1 hgv
      · exact fl_in st_el2_2 hgv
      · exact fl_in st_el2_3 hgv
    · rcases (show j = 0 ∨ j = 1 ∨ j = 2 ∨ j = 3 ∨ j = 4 by simp only [strN, List.getD_cons_zero, List.getD_cons_succ] at hj; omega) with rfl | rfl | rfl | rfl | rfl
      · exact fl_in st_el3_0 hgv
      · exact fl_in st_el3_1 hgv
      · exact fl_in st_el3_2 hgv
      · exact fl_in st_el3_3 hgv
      · exact fl_in st_el3_4 hgv
  · rcases four hi with rfl | rfl | rfl | rfl <;> rcases four hj with rfl | rfl | rfl | rfl
    · exact absurd rfl hij
    · exact Or.inl (fl_in st_ne01 hgv)
    · exact Or.inl (fl_in st_ne02 hgv)
    · exact Or.inl (fl_in st_ne03 hgv)
    · exact Or.inr (fl_in st_ne01 hgv)
    · exact absurd rfl hij
    · exact Or.inl (fl_in st_ne12 hgv)
    · exact Or.inl (fl_in st_ne13 hgv)
    · exact Or.inr (fl_in st_ne02 hgv)
    · exact Or.inr (fl_in st_ne12 hgv)
    · exact absurd rfl hij
    · exact Or.inl (fl_in st_ne23 hgv)
    · exact Or.inr (fl_in st_ne03 hgv)
    · exact Or.inr (fl_in st_ne13 hgv)
    · exact Or.inr (fl_in st_ne23 hgv)
    · exact absurd rfl hij
theorem st_xW : xW = [.declares (Bundle.initS "java/lang/RuntimeException"), .declares (Bundle.initS "java/lang/Exception"), .declares (Bundle.initS Bundle.tN), .castable "java/util/NoSuchElementException" "java/util/NoSuchElementException"] := by decide +kernel
theorem xW_warm {s U : State} (hW : s.WarmedH U.vm) (h : ∀ w ∈ xW, va_Nw w s) : ∀ w ∈ xW, va_Nw w U := by
  rw [st_xW] at h ⊢
  intro w hw
  have hw0 := h w hw
  simp only [List.mem_cons, List.not_mem_nil, or_false] at hw
  rcases hw with rfl | rfl | rfl | rfl
  · exact va_Nw.warmD hW hw0
  · exact va_Nw.warmD hW hw0
  · exact va_Nw.warmD hW hw0
  · exact va_Nw.warmC hW hw0
theorem xW_in : ∀ w ∈ xW, w ∈ lw_tbl := by decide +kernel
theorem nest_in : ∀ q ∈ nestL, Cond.methodLinkNest q.1 q.2.1 q.2.2.1 q.2.2.2 ∈ lw_tbl := by decide +kernel
/-- what is known of the start -/
def eW0 (B : Nat) (H0 : Heap) (ad av : Nat → Nat) : State → Prop := fun U => va_AO RX0 U ∧ (∀ q ∈ strL, vk_R q.1 q.2.1 q.2.2.1 (ad q.2.2.2) U) ∧ vk_S 4 strN strB ad av (fun q => B ≤ q) U H0 ∧ va_Z "java/lang/String" "COMPACT_STRINGS" "Z" (.int 1) (fun q => B ≤ q) U H0 ∧ va_Zq "jdk/internal/util/Preconditions" "SIOOBE_FORMATTER" "Ljava/util/function/BiFunction;" (fun q => B ≤ q) U H0 ∧ vx_Zq Bundle.tN "UNASSIGNED_STACK" Bundle.steD (fun q => B ≤ q) U H0 ∧ vx_Zq Bundle.tN "SUPPRESSED_SENTINEL" Bundle.listD (fun q => B ≤ q) U H0 ∧ (∀ w ∈ xW, va_Nw w U) ∧ va_Nw (.castable "java/util/NoSuchElementException" "java/util/NoSuchElementException") U
theorem eW0_warm {B : Nat} {H0 : Heap} {ad av : Nat → Nat} (s T : State) (hW : s.WarmedH T.vm) (h : eW0 B H0 ad av s) : eW0 B H0 ad av T := by
  obtain ⟨h1, h2, h3, h4, h5, h6, h7, h8, h9⟩ := h
  exact ⟨va_AO.moved hW.alike h1, fun q hq => (h2 q hq).warm hW, h3.moved hW.alike, h4.moved hW.alike, h5.moved hW.alike, h6.moved hW.alike, h7.moved hW.alike, xW_warm hW h8, va_Nw.warmC hW h9⟩
/-- what the pure functions owe -/
theorem arr_known {ty : FieldType} {args : Array Value} {s : State} (h : (Cond.arrayClass ty).before args s = true) : ∃ cA, s.vm.findClass ("[" ++ ty.toString) = some cA ∧ ArrOfT s cA ty := by
  obtain ⟨c, k, comp, h1, h2, h3⟩ := Cond.arrayClass_spec (args := args) (first := s) (o := none) (s := s) (idx := []) h
  exact ⟨c, h1, fun n z => ⟨fun q h => (by cases h), k, h2, comp, h3⟩⟩
set_option maxHeartbeats 4000000 in
set_option maxRecDepth 100000 in
theorem whole_of (hP : PureOk) {p : Program} {e : Env} {s : State} {m : MethodId} {below : List Frame} {meth : Method} {c : Code} (l : Launch) (hflags : l.flags = flags0) {b L : Nat} {xs : Nat → Int32} (hL : L ≤ 3072) (C0 : lw_At p s m meth c b L xs) : W p l e room_1 s m #[Value.ref b] below meth c s.heap [] 0 0 (lw_Z below #[Value.ref b] s) (entryFrame m ([Value.ref b] : List Value).toArray 7) := by
  obtain ⟨hx, hb, hr, hml, hown, hts, hXs, hbl, hlocks, hgv⟩ := id C0
  have hA : ∀ a : Nat, a < s.heap.size → ¬ (fun q => s.heap.size ≤ q) a := fun a h => Nat.not_le.mpr h
  -- classes
  obtain ⟨c0, i0, hk0⟩ := u_known (C := RX0) (T := TX0) (N := 13) (n := 13) hts (fun w h => wU_in (inl_X0 w h)) (hts _ (wU_in ins_X0))
  obtain ⟨c1, i1, hk1⟩ := u_known (C := RX1) (T := TX1) (N := 10) (n := 10) hts (fun w h => wU_in (inl_X1 w h)) (hts _ (wU_in ins_X1))
  obtain ⟨c2, i2, hk2⟩ := u_known (C := RX2) (T := TX2) (N := 7) (n := 7) hts (fun w h => wU_in (inl_X2 w h)) (hts _ (wU_in ins_X2))
  obtain ⟨c3, i3, hk3⟩ := u_known (C := RX3) (T := TX3) (N := 17) (n := 17) hts (fun w h => wU_in (inl_X3 w h)) (hts _ (wU_in ins_X3))
  obtain ⟨c4, i4, hk4⟩ := u_known (C := RX4) (T := TX4) (N := 13) (n := 13) hts (fun w h => wU_in (inl_X4 w h)) (hts _ (wU_in ins_X4))
  obtain ⟨c5, i5, hk5⟩ := u_known (C := RX5) (T := TX5) (N := 42) (n := 42) hts (fun w h => wU_in (inl_X5 w h)) (hts _ (wU_in ins_X5))
  obtain ⟨dC, dI, hKc⟩ : ∃ (dC : Nat → ClassId) (dI : Nat → Nat → Nat), ∀ (k : Nat) (q : vw_C), vwCl[k]? = some q → u_Kn s q.1 q.2.1 q.2.2 (dC k) (dI k) := by
    refine ⟨fun k => if k = 0 then c0 else if k = 1 then c1 else if k = 2 then c2 else if k = 3 then c3 else if k = 4 then c4 else c5, fun k => if k = 0 then i0 else if k = 1 then i1 else if k = 2 then i2 else if k = 3 then i3 else if k = 4 then i4 else i5, ?_⟩
    intro k q hq
    match k, hq with
    | 0, hq => cases hq; exact hk0
    | 1, hq => cases hq; exact hk1
    | 2, hq => cases hq; exact hk2
    | 3, hq => cases hq; exact hk3
    | 4, hq => cases hq; exact hk4
    | 5, hq => cases hq; exact hk5
    | k + 6, hq => simp [vwCl] at hq
  -- rows' classes
  obtain ⟨a6, f6, g6⟩ := arr_known (ty := .byte) (hts _ (wU_in arr_byte))
  obtain ⟨a7, f7, g7⟩ := arr_known (ty := .int) (hts _ (wU_in arr_int))
  obtain ⟨a8, f8, g8⟩ := arr_known (ty := .long) (hts _ (wU_in arr_long))
  obtain ⟨a9, f9, g9⟩ := arr_known (ty := .boolean) (hts _ (wU_in arr_boolean))
  have hao : (Cond.arrayOver (.object RX0)).before #[Value.ref b] s = true := hts _ (by decide +kernel)
  obtain ⟨comp, a10, kA, hcomp, -, hka, hkk, f10⟩ := Cond.arrayOver_spec (args := #[Value.ref b]) (first := s) (o := none) (s := s) (idx := []) hao
  -- strings and statics
  obtain ⟨adK, av, hvS, hev⟩ := st_strings (A := fun q => s.heap.size ≤ q) hgv hA
  obtain ⟨s4, -, -, -, e4, -⟩ := Cond.exactly_spec (args := #[Value.ref b]) (first := s) (o := none) (s := s) (idx := []) (t := .string "WaveWall" 103) (cls := "java/lang/String") (fl_in (show Cond.exactly (.string "WaveWall" 103) "java/lang/String" ∈ flatC (Jvm.Cond.and given_1 narrow_1) by decide +kernel) hgv)
  obtain ⟨s5, -, -, -, e5, -⟩ := Cond.exactly_spec (args := #[Value.ref b]) (first := s) (o := none) (s := s) (idx := []) (t := .string "WaveWall" 130) (cls := "java/lang/String") (fl_in (show Cond.exactly (.string "WaveWall" 130) "java/lang/String" ∈ flatC (Jvm.Cond.and given_1 narrow_1) by decide +kernel) hgv)
  obtain ⟨ad, had⟩ : ∃ ad : Nat → Nat, (∀ i, i < 4 → ad i = adK i) ∧ ad 4 = s4 ∧ ad 5 = s5 := ⟨fun i => if i < 4 then adK i else if i = 4 then s4 else s5, fun i hi => if_pos hi, rfl, rfl⟩
  have hvS2 : vk_S 4 strN strB ad av (fun q => s.heap.size ≤ q) s s.heap := ⟨fun i hi => by rw [had.1 i hi]; exact hvS.1 i hi, fun i j hi hj h => by rw [had.1 i hi, had.1 j hj] at h; exact hvS.2 i j hi hj h⟩
  have hstr : ∀ q ∈ strL, vk_R q.1 q.2.1 q.2.2.1 (ad q.2.2.2) s := by
    intro q hq
    simp only [strL, List.mem_cons, List.not_mem_nil, or_false] at hq
    rcases hq with rfl | rfl | rfl | rfl | rfl | rfl
    · exact vk_R.of (A := #[Value.ref b]) (hts _ (by decide +kernel)) (by rw [had.1 0 (by decide)]; exact hev 0 (by decide))
    · exact vk_R.of (A := #[Value.ref b]) (hts _ (by decide +kernel)) (by rw [had.1 1 (by decide)]; exact hev 1 (by decide))
    · exact vk_R.of (A := #[Value.ref b]) (hts _ (by decide +kernel)) (by rw [had.1 2 (by decide)]; exact hev 2 (by decide))
    · exact vk_R.of (A := #[Value.ref b]) (hts _ (by decide +kernel)) (by rw [had.1 3 (by decide)]; exact hev 3 (by decide))
    · exact vk_R.of (A := #[Value.ref b]) (hts _ (by decide +kernel)) (by rw [had.2.1]; exact e4)
    · exact vk_R.of (A := #[Value.ref b]) (hts _ (by decide +kernel)) (by rw [had.2.2]; exact e5)
  have hcs : va_Z "java/lang/String" "COMPACT_STRINGS" "Z" (.int 1) (fun q => s.heap.size ≤ q) s s.heap := va_Zof (hts _ (by decide +kernel)) (hts _ (by decide +kernel)) (va_eqi (fl_in (show Cond.eq (.static "java/lang/String" "COMPACT_STRINGS" "Z") (.int 1) ∈ flatC (Jvm.Cond.and given_1 narrow_1) by decide +kernel) hgv)) hA
  have hsf : va_Zq "jdk/internal/util/Preconditions" "SIOOBE_FORMATTER" "Ljava/util/function/BiFunction;" (fun q => s.heap.size ≤ q) s s.heap := va_Zqof (hts _ (by decide +kernel)) (hts _ (by decide +kernel)) (fl_in (show Cond.isRef (.static "jdk/internal/util/Preconditions" "SIOOBE_FORMATTER" "Ljava/util/function/BiFunction;") ∈ flatC (Jvm.Cond.and given_1 narrow_1) by decide +kernel) hgv) hA
  have hus : vx_Zq Bundle.tN "UNASSIGNED_STACK" Bundle.steD (fun q => s.heap.size ≤ q) s s.heap := vx_Zqof (hts _ (by decide +kernel)) (hts _ (by decide +kernel)) (fl_in (show Cond.isRef (.static Bundle.tN "UNASSIGNED_STACK" Bundle.steD) ∈ flatC (Jvm.Cond.and given_1 narrow_1) by decide +kernel) hgv) hA
  have hss : vx_Zq Bundle.tN "SUPPRESSED_SENTINEL" Bundle.listD (fun q => s.heap.size ≤ q) s s.heap := vx_Zqof (hts _ (by decide +kernel)) (hts _ (by decide +kernel)) (fl_in (show Cond.isRef (.static Bundle.tN "SUPPRESSED_SENTINEL" Bundle.listD) ∈ flatC (Jvm.Cond.and given_1 narrow_1) by decide +kernel) hgv) hA
  have hxW : ∀ w ∈ xW, va_Nw w s := fun w h => va_Nw.of ((show ∀ w ∈ xW, w.onTables = true by decide +kernel) w h) (hts w (xW_in w h))
  have hcast : va_Nw (.castable "java/util/NoSuchElementException" "java/util/NoSuchElementException") s := va_Nw.of rfl (hts _ (by decide +kernel))
  -- the fixed facts
  obtain ⟨cy, hcy⟩ : ∃ cy : Nat → ClassId, cy 6 = a6 ∧ cy 7 = a7 ∧ cy 8 = a8 ∧ cy 9 = a9 ∧ cy 10 = a10 := ⟨fun k => if k = 6 then a6 else if k = 7 then a7 else if k = 8 then a8 else if k = 9 then a9 else a10, rfl, rfl, rfl, rfl, rfl⟩
  obtain ⟨E, hEe⟩ : ∃ E : Ev, E = (l, (dC, dI), cy, s.heap.size, s.heap, eW0 s.heap.size s.heap ad av) := ⟨_, rfl⟩
  have hB : eB E = s.heap.size := by rw [hEe]; rfl
  have hH : eH E = s.heap := by rw [hEe]; rfl
  have hl1 : E.1 = l := by rw [hEe]
  have haB : aB E = (fun q => s.heap.size ≤ q) := by unfold aB; rw [hB]
  have hWE : eW E = eW0 s.heap.size s.heap ad av := by rw [hEe]; rfl
  have hEok : EvOk E ad av := by
    refine ⟨⟨by rw [hH, hB], by rw [hl1]; unfold Launch.stackTraces; rw [hflags]; decide +kernel⟩, fun U hU => ?_⟩
    rw [hWE] at hU
    rw [haB, hH]
    exact hU
  have hKw : Kw E s := by
    refine ⟨⟨?_, fun k q hq => ?_⟩, fun q hq => va_Nw.of rfl (hts _ (nest_in q hq)), ?_, ?_⟩
    · intro k q hq
      rw [hEe]
      exact hKc k q hq
    · have hT : eT E = [(a6, .byte), (a7, .int), (a8, .long), (a9, .boolean), (a10, .object RX0)] := by
        unfold eT eC
        rw [hEe]
        simp only [hcy.1, hcy.2.1, hcy.2.2.1, hcy.2.2.2.1, hcy.2.2.2.2]
      rw [hT] at hq
      match k, hq with
      | 0, hq => cases hq; exact ⟨g6, f6⟩
      | 1, hq => cases hq; exact ⟨g7, f7⟩
      | 2, hq => cases hq; exact ⟨g8, f8⟩
      | 3, hq => cases hq; exact ⟨g9, f9⟩
      | 4, hq => cases hq; exact ⟨fun n z => ⟨fun q h => (by cases h), kA, hka, comp, hkk⟩, kA, comp, hka, hkk, hcomp, f10⟩
      | k + 5, hq => simp at hq
    · rw [hWE]
      exact ⟨va_AO.of hao, hstr, hvS2, hcs, hsf, hus, hss, hxW, hcast⟩
    · rw [hWE]
      exact eW0_warm
  obtain ⟨X, hXe⟩ : ∃ X : Xt, X = (p, e, room_1, s, m, #[Value.ref b], below, meth, c) := ⟨_, rfl⟩
  have hCx : Cx E X cL_law 7 (some .boolean) RL := by
    rw [hXe]
    exact ⟨hx, hb, hml, hr, hlocks, hown, fun w h => hts w (wU_in h), hKw, by rw [hB]; exact Nat.le_refl _, fun q _ => by rw [hH]⟩
  have hRm : RmOk X (0 + 41) 601024 7293034 := by
    rw [hXe]
    exact ⟨Nat.le_of_ble_eq_true rfl, Nat.le_of_ble_eq_true rfl, Nat.le_of_ble_eq_true rfl, Nat.le_of_ble_eq_true rfl⟩
  have hsc : Scr E X b L xs := by
    rw [hXe]
    exact ⟨hXs, hbl, by rw [haB]; exact hA b hbl⟩
  obtain ⟨r, Inv, t, u, hs0, hI, hO, hi0⟩ := hP s.heap.size L xs hL
  have hend : ∀ (ls : List (Nat × Value)) (z : Sh) (J : MJ) (I : MI) (uc us : Nat), uc ≤ 601024 → us ≤ 7293034 → GW E X (lw_Z below #[Value.ref b] s) 7 989 ls [.int 1] z J I uc us := by
    intro ls z J I uc us h1 h2 H locs lsA hR hS hl
    have hf : ∀ q ∈ locs, s.heap.size ≤ q.base := fun q hq => by
      have := hS.2.2 q hq
      rw [haB] at this
      exact this
    subst hXe
    have hw := W.widen h1 h2 (va_forget hf (lw_ret (p := p) (l := l) (e := e) (s := s) (m := m) (below := below) (meth := meth) (c := c) (b := b) hx hb hr hlocks (H := H) (ls := lsA) dL_law_989))
    rw [hEe]
    exact hw
  have hk := law_loop (d := 0) hCx hRm hEok hsc hL hI hO hend 513 0 (by omega) (by omega) t u _ _ _ hi0
  have hst := l_start (d := 0) (b := b) hCx hRm hEok hs0 (by have hk2 := hk; simp only [Nat.mul_zero, Nat.add_zero, nI_0] at hk2; exact hk2)
  have hl := lv_entry ([.ref b]) (n := 7) (Nat.le_of_ble_eq_true rfl)
  rw [lg_entry_eq]
  have hR0 : Rel E (s.heap.size, [], fun _ => 0, fun _ => 0, fun _ _ => none) (fun _ _ => 0) (fun _ _ => 0) s.heap := ⟨rfl, by rw [hB]; exact Nat.le_refl _, fun q _ => by rw [hH], fun a ha => nomatch ha⟩
  subst hXe
  have hfin := hst s.heap [] _ hR0 va_S.rf hl
  rw [hEe] at hfin
  exact hfin
