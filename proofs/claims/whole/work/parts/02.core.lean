/-! ONE POOL for all objects: addresses are the machine's own; I holds ints (fields by number, elements of int, byte, boolean rows), J longs; the shape z: the heap's size, the addresses held, the kind of each, the length of each row, the references. -/
abbrev Sh : Type := Nat × List Nat × (Nat → Nat) × (Nat → Nat) × (Nat → Nat → Option Nat)
def zs (z : Sh) : Nat := z.1
def zL (z : Sh) : List Nat := z.2.1
def zK (z : Sh) : Nat → Nat := z.2.2.1
def zn (z : Sh) : Nat → Nat := z.2.2.2.1
def zR (z : Sh) : Nat → Nat → Option Nat := z.2.2.2.2
abbrev MI : Type := Nat → Nat → Int32
abbrev MJ : Type := Nat → Nat → Int64
/-- launch, class numbers and slots, row classes by kind, the least address of the pool, the heap below it, what else is known of the start -/
abbrev Ev : Type := Launch × va_G × (Nat → ClassId) × Nat × Heap × (State → Prop)
def eB (E : Ev) : Nat := E.2.2.2.1
def eH (E : Ev) : Heap := E.2.2.2.2.1
def eW (E : Ev) : State → Prop := E.2.2.2.2.2
def eC (E : Ev) : Nat → ClassId := E.2.2.1
def eD (E : Ev) : va_G := E.2.1
def eT (E : Ev) : List (ClassId × FieldType) := [(eC E 6, .byte), (eC E 7, .int), (eC E 8, .long), (eC E 9, .boolean), (eC E 10, .object RX0)]
/-- the calls of private methods among nest mates: class, place in its pool, method, host -/
def nestL : List (String × Nat × MethodName × String) := [(RX4, 19, yX2_init, RX4), (RX4, 26, yX3_init, RX4), (RX4, 43, yX1_init, RX4), (RX0, 118, yX4_orderOfUnit, RX4), (RX0, 72, yX4_cell, RX4), (RX0, 76, yX4_sumOfOrder, RX4), (RX0, 89, yX4_hasBit, RX4), (RX1, 109, yX4_hasBit, RX4), (RX1, 122, yX4_cell, RX4), (RX1, 128, yX4_sumOfOrder, RX4), (RX2, 130, yX4_hasBit, RX4), (RX3, 82, yX4_cell, RX4), (RX3, 86, yX4_hasBit, RX4)]
/-- what is known of the machine's tables, the same at every state of the run -/
def Kw (E : Ev) (U : State) : Prop := va_K (eD E) vwCl (eT E) U ∧ (∀ q ∈ nestL, va_Nw (.methodLinkNest q.1 q.2.1 q.2.2.1 q.2.2.2) U) ∧ eW E U ∧ ∀ s T : State, s.WarmedH T.vm → eW E s → eW E T
theorem Kw.warm {E : Ev} {s U : State} (hW : s.WarmedH U.vm) (h : Kw E s) : Kw E U := ⟨va_K.moved hW.alike h.1, fun q hq => (h.2.1 q hq).warmM hW, h.2.2.2 s U hW h.2.2.1, h.2.2.2⟩
/-- one place of the memory gets a value -/
def mst {α : Type} (f : Nat → Nat → α) (a k : Nat) (v : α) : Nat → Nat → α := fun b j => if b = a ∧ j = k then v else f b j
theorem mst_self {α : Type} (f : Nat → Nat → α) (a k : Nat) (v : α) : mst f a k v a k = v := by simp [mst]
theorem mst_row {α : Type} (f : Nat → Nat → α) {a b : Nat} (k : Nat) (v : α) (h : b ≠ a) : mst f a k v b = f b := by funext j; simp [mst, h]
theorem mst_ne {α : Type} (f : Nat → Nat → α) {a b k j : Nat} (v : α) (h : b ≠ a ∨ j ≠ k) : mst f a k v b j = f b j := by
  have : ¬ (b = a ∧ j = k) := fun q => h.elim (fun x => x q.1) (fun x => x q.2)
  simp [mst, this]
def nF (c : Nat) : Nat := match c with
  | 0 => 13
  | 1 => 10
  | 2 => 7
  | 3 => 17
  | 4 => 13
  | _ => 42
def fT (c k : Nat) : FieldType := match c with
  | 0 => tyX0 k
  | 1 => tyX1 k
  | 2 => tyX2 k
  | 3 => tyX3 k
  | 4 => tyX4 k
  | _ => tyX5 k
def fV (t : FieldType) (z : Sh) (J : MJ) (I : MI) (a k : Nat) : Value := match t with
  | .long => .long (J a k)
  | .object _ => va_rf (zR z a k)
  | .array _ => va_rf (zR z a k)
  | _ => .int (I a k)
def fL (z : Sh) (J : MJ) (I : MI) (a c : Nat) : List Value := (List.range (nF c)).map (fun k => fV (fT c k) z J I a k)
def cE (cy : Nat → ClassId) (z : Sh) (J : MJ) (I : MI) (a : Nat) : va_E :=
  if zK z a < 6 then .inr (zK z a, fL z J I a (zK z a))
  else if zK z a = 8 then .inl (cy 8, zn z a, .inr (.inl (J a)))
  else if zK z a = 10 then .inl (cy 10, zn z a, .inr (.inr (.inr (.inr (zR z a)))))
  else .inl (cy (zK z a), zn z a, .inl (I a))
theorem cE_o {cy : Nat → ClassId} {z : Sh} {J : MJ} {I : MI} {a c : Nat} (h : zK z a = c) (hc : c < 6) : cE cy z J I a = .inr (c, fL z J I a c) := by
  unfold cE; rw [h, if_pos hc]
theorem cE_i {cy : Nat → ClassId} {z : Sh} {J : MJ} {I : MI} {a c n : Nat} (h : zK z a = c) (hn : zn z a = n) (hc : c = 6 ∨ c = 7 ∨ c = 9) : cE cy z J I a = .inl (cy c, n, .inl (I a)) := by
  unfold cE; rw [h, hn]; rcases hc with rfl | rfl | rfl <;> rfl
theorem cE_j {cy : Nat → ClassId} {z : Sh} {J : MJ} {I : MI} {a n : Nat} (h : zK z a = 8) (hn : zn z a = n) : cE cy z J I a = .inl (cy 8, n, .inr (.inl (J a))) := by
  unfold cE; rw [h, hn]; rfl
theorem cE_q {cy : Nat → ClassId} {z : Sh} {J : MJ} {I : MI} {a n : Nat} (h : zK z a = 10) (hn : zn z a = n) : cE cy z J I a = .inl (cy 10, n, .inr (.inr (.inr (.inr (zR z a))))) := by
  unfold cE; rw [h, hn]; rfl
/-- the pool and the machine's heap -/
def Rel (E : Ev) (z : Sh) (J : MJ) (I : MI) (H : Heap) : Prop :=
  H.size = zs z ∧ eB E ≤ zs z ∧ (∀ q, q < eB E → H[q]? = (eH E)[q]?) ∧ ∀ a ∈ zL z, eB E ≤ a ∧ va_at (eD E) vwCl (a, cE (eC E) z J I a) H
theorem Rel.one {E : Ev} {z : Sh} {J : MJ} {I : MI} {H : Heap} (h : Rel E z J I H) {a : Nat} (ha : a ∈ zL z) {e : va_E} (he : cE (eC E) z J I a = e) : va_P (eD E) vwCl [(a, e)] H := by
  intro k q hq
  have hz : k < 1 := (List.getElem?_eq_some_iff.mp hq).1
  rw [show k = 0 by omega] at hq
  cases hq
  rw [← he]
  exact (h.2.2.2 a ha).2
theorem Rel.lt {E : Ev} {z : Sh} {J : MJ} {I : MI} {H : Heap} (h : Rel E z J I H) {a : Nat} (ha : a ∈ zL z) : a < zs z := by
  have := (h.2.2.2 a ha).2.lt
  rw [h.1] at this
  exact this
theorem Rel.set {E : Ev} {z z' : Sh} {J J' : MJ} {I I' : MI} {H H1 : Heap} (h : Rel E z J I H) {a : Nat} (ha : a ∈ zL z) (z1 : H1.size = H.size) (oq : ∀ q : Nat, q ≠ a → H1[q]? = H[q]?) (hat : va_at (eD E) vwCl (a, cE (eC E) z' J' I' a) H1)
    (ho : ∀ b ∈ zL z, b ≠ a → cE (eC E) z' J' I' b = cE (eC E) z J I b) (hs : zs z' = zs z) (hL : zL z' = zL z) : Rel E z' J' I' H1 := by
  refine ⟨by rw [z1, hs]; exact h.1, by rw [hs]; exact h.2.1, fun q hq => ?_, fun b hb => ?_⟩
  · have : q ≠ a := fun e => by have := (h.2.2.2 a ha).1; omega
    rw [oq q this]
    exact h.2.2.1 q hq
  · rw [hL] at hb
    refine ⟨(h.2.2.2 b hb).1, ?_⟩
    by_cases e : b = a
    · subst e; exact hat
    · have h1 := (h.2.2.2 b hb).2
      rw [ho b hb e]
      exact h1.kept (oq b e)
/-- program, environment, room, start, method, arguments, frames below, method's row, code -/
abbrev Xt : Type := Program × Env × Room × State × MethodId × Array Value × List Frame × Method × Code
abbrev xS (X : Xt) : State := X.2.2.2.1
abbrev xM (X : Xt) : MethodId := X.2.2.2.2.1
abbrev xA (X : Xt) : Array Value := X.2.2.2.2.2.1
abbrev xB (X : Xt) : List Frame := X.2.2.2.2.2.2.1
abbrev xH (X : Xt) : Method := X.2.2.2.2.2.2.2.1
abbrev xC (X : Xt) : Code := X.2.2.2.2.2.2.2.2
abbrev WX (E : Ev) (X : Xt) (H : Heap) (locs : List Loc) (uc us : Nat) (Q : State → Prop) (g : JFrame) : Prop := W X.1 E.1 X.2.1 X.2.2.1 (xS X) (xM X) (xA X) (xB X) (xH X) (xC X) H locs uc us Q g
def Cx (E : Ev) (X : Xt) (cc : ByteArray) (n : Nat) (ret : Option FieldType) (own : String) : Prop :=
  X.1.tables.exec = Jvm.exec ∧ (xC X).code = cc ∧ (xC X).maxLocals = n ∧ (xH X).sig.returnType = ret ∧ (xH X).locks = false ∧ (xS X).vm.findClass own = some (xM X).cls ∧ (∀ w ∈ wU, w.before (xA X) (xS X) = true) ∧ Kw E (xS X) ∧ (eB E ≤ (xS X).heap.size ∧ ∀ q, q < eB E → (xS X).heap[q]? = (eH E)[q]?)
abbrev aB (E : Ev) : Nat → Prop := fun q => eB E ≤ q
/-- from this place of the method, with these locals, this stack, this memory, the machine comes to Q -/
def GW (E : Ev) (X : Xt) (Q : State → Prop) (n : Nat) (pc : Nat) (ls : List (Nat × Value)) (st : List Value) (z : Sh) (J : MJ) (I : MI) (uc us : Nat) : Prop :=
  ∀ (H : Heap) (locs : List Loc) (lsA : Array Slot), Rel E z J I H → va_S (aB E) (xS X).heap H locs → lv_has lsA n ls → WX E X H locs uc us Q (F0 (xM X) pc lsA st)

/-- what a method's end says: its answer, the memory behind it -/
def Qc (E : Ev) (o : Option Value) (z : Sh) (J : MJ) (I : MI) : Array Value → State → Outcome → State → Prop := fun _ _ oc t => oc = .returned o ∧ Rel E z J I t.heap
abbrev QX (E : Ev) (X : Xt) (mc ms : Nat) (o : Option Value) (z : Sh) (J : MJ) (I : MI) : State → Prop := MQ (xB X) (Qc E o z J I) (xA X) (xS X) mc ms (aB E)
/-- the room that a frame has: so many frames, cells, slots at least -/
def RmOk (X : Xt) (d mc ms : Nat) : Prop := d ≤ X.2.2.1.frames ∧ 64 * d ≤ X.2.2.1.locals ∧ mc ≤ X.2.2.1.cells ∧ ms ≤ X.2.2.1.slots
def rmD (d mc ms : Nat) : Room := { frames := d, cells := mc, slots := ms, locals := 64 * d }
abbrev mW (y : MethodName) (cc : ByteArray) (n : Nat) (ret : Option FieldType) : List Cond := Cond.code y cc n ret :: wU
theorem good_mW {y : MethodName} {cc : ByteArray} {n : Nat} {ret : Option FieldType} (h : Cond.code y cc n ret ∈ wU) : GoodIn wU (mW y cc n ret) := fun w hw => (List.mem_cons.mp hw).elim (fun e => by rw [e]; exact ⟨h, wU_good h⟩) (fun hw => ⟨hw, wU_good hw⟩)
/-- a method's contract: with these arguments and this memory it answers o, and the memory is z', J', I' -/
def Ct (E : Ev) (d : Nat) (y : MethodName) (cc : ByteArray) (n : Nat) (ret : Option FieldType) (mc ms : Nat) (as : List Value) (z : Sh) (J : MJ) (I : MI) (o : Option Value) (z' : Sh) (J' : MJ) (I' : MI) : Prop :=
  Met E.1 y (mW y cc n ret) (rmD d mc ms) (va_Pc as (fun U => Rel E z J I U.heap ∧ Kw E U)) (Qc E o z' J' I') mc ms (aB E)
theorem Ct.blind {E : Ev} {as : List Value} {z : Sh} {J : MJ} {I : MI} : FrameBlind (va_Pc as (fun U => Rel E z J I U.heap ∧ Kw E U)) := by
  intro a U g mk h
  exact ⟨h.1, h.2.1, Kw.warm (s := U) (State.WarmedH.refl U) h.2.2⟩
theorem Ct.of {E : Ev} {d : Nat} {y : MethodName} {mc ms : Nat} {as : List Value} {z : Sh} {J : MJ} {I : MI} {o : Option Value} {z' : Sh} {J' : MJ} {I' : MI} {cc : ByteArray} {n : Nat} {ret : Option FieldType} {own : String} {ls : List (Nat × Value)}
    (hy : plainName y.cls = true) (ho : y.cls = own) (hl : (lg_sl as).length ≤ n) (hls : lv_args 0 as = ls)
    (body : ∀ X : Xt, RmOk X d mc ms → (xH X).name = y.name → Cx E X cc n ret own → GW E X (QX E X mc ms o z' J' I') n 0 ls [] z J I 0 0) : Ct E d y cc n ret mc ms as z J I o z' J' I' := by
  refine Met.ofW (cc := cc) (maxL := n) (ret := ret) hy rfl ?_
  intro p e s m args below meth c s₁ B hml hv
  obtain ⟨rfl, hR, hK⟩ := hv
  subst hls
  have hown : s.vm.findClass own = some m.cls := by rw [← ho]; exact findClass_of_methodNamed B.named
  have hts := atoms_spec (ws := mW y cc n ret) B.pre
  have hb := body (p, e, (headSpec (mW y cc n ret) (rmD d mc ms)).room, s, m, as.toArray, below, meth, c) ⟨Nat.le_refl _, Nat.le_refl _, Nat.le_refl _, Nat.le_refl _⟩ (name_of_methodNamed B.named B.method).1 ⟨B.exec, B.bytes, hml, B.returns, B.notSynchronized, hown, fun w h => hts w (List.mem_cons_of_mem _ h), hK, by rw [hR.1]; exact hR.2.1, hR.2.2.1⟩
  rw [lg_entry_eq]
  exact hb s.heap [] _ hR va_S.rf (lv_entry as hl)
