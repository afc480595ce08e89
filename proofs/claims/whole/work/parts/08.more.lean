/-! what is known of the start besides the pool: constants, and rows that give names -/
def strL : List (String × Nat × String × Nat) := [(RX5, 153, "holes", 0), (RX5, 158, "wave", 1), (RX5, 160, "item", 2), (RX5, 162, "order", 3), (RX4, 103, "no such order", 4), (RX4, 130, "no such what", 5)]
def strN : List Nat := [5, 4, 4, 5]
def strB : List (List Int32) := [[104, 111, 108, 101, 115], [119, 97, 118, 101], [105, 116, 101, 109], [111, 114, 100, 101, 114]]
/-- NoSuchElementException's constructor, as this JDK has it -/
abbrev c13 : ByteArray := prog_23_method_4_code
def xoAtoms (own : String) (ic : Nat) (X : String) : List Cond := Bundle.throwableAtoms ++ Bundle.throwableSAtoms ++ (Bundle.passSAtoms X "java/lang/RuntimeException" 13 c13 ++ Bundle.chainSAtoms "java/lang/RuntimeException" ["java/lang/Exception"]) ++
  [.methodLink own ic (Bundle.initS X), .instantiable X 6, .castable X X, .selects X Bundle.tFill0 Bundle.tFill0, .selects X Bundle.tFill Bundle.tFill, .lays X Bundle.tN "cause" "Ljava/lang/Throwable;", .lays X Bundle.tN "stackTrace" Bundle.steD, .lays X Bundle.tN "suppressedExceptions" Bundle.listD, .lays X Bundle.tN "detailMessage" "Ljava/lang/String;",
   .isRef (.static Bundle.tN "UNASSIGNED_STACK" Bundle.steD), .isRef (.static Bundle.tN "SUPPRESSED_SENTINEL" Bundle.listD), .fieldLink Bundle.tN 198 Bundle.tN "backtrace" "Ljava/lang/Object;", .lays Bundle.tN Bundle.tN "backtrace" "Ljava/lang/Object;", .lays X Bundle.tN "backtrace" "Ljava/lang/Object;"]
abbrev xoAt : List Cond := (xoAtoms RX4 105 "java/util/NoSuchElementException").filter vx_no
/-- words of the exception's own that a run keeps, though not by their form -/
def xW : List Cond := xoAt.filter (fun w => !goodWord w)
def EvOk (E : Ev) (ad av : Nat → Nat) : Prop := ((eH E).size = eB E ∧ E.1.stackTraces = false) ∧ ∀ U : State, eW E U → va_AO RX0 U ∧ (∀ q ∈ strL, vk_R q.1 q.2.1 q.2.2.1 (ad q.2.2.2) U) ∧ vk_S 4 strN strB ad av (aB E) U (eH E) ∧ va_Z "java/lang/String" "COMPACT_STRINGS" "Z" (.int 1) (aB E) U (eH E) ∧ va_Zq "jdk/internal/util/Preconditions" "SIOOBE_FORMATTER" "Ljava/util/function/BiFunction;" (aB E) U (eH E) ∧ vx_Zq Bundle.tN "UNASSIGNED_STACK" Bundle.steD (aB E) U (eH E) ∧ vx_Zq Bundle.tN "SUPPRESSED_SENTINEL" Bundle.listD (aB E) U (eH E) ∧ (∀ w ∈ xW, va_Nw w U) ∧ va_Nw (.castable "java/util/NoSuchElementException" "java/util/NoSuchElementException") U
theorem EvOk.ao {E : Ev} {ad av : Nat → Nat} (h : EvOk E ad av) {X : Xt} {cc : ByteArray} {n : Nat} {ret : Option FieldType} {own : String} (hX : Cx E X cc n ret own) : va_AO RX0 (xS X) := (h.2 _ hX.kw.2.2.1).1
theorem raw.nm {zt z : Sh} (e : nm zt = some z) {a c : Nat} (h : raw zt a c) : raw z a c := by obtain rfl := Option.some.inj e; exact h
def wz (n : Nat) (z : Sh) (a : Nat) (i : Int32) (v : Nat) : Option Sh := if i < 0 ∨ n ≤ i.toNatClampNeg then none else some (zSt z a i.toNatClampNeg (some v))
theorem wz_some {n : Nat} {z z' : Sh} {a v : Nat} {i : Int32} (h : wz n z a i v = some z') : vp_in i n ∧ zSt z a i.toNatClampNeg (some v) = z' := by
  unfold wz at h
  by_cases c : i < 0 ∨ n ≤ i.toNatClampNeg
  · rw [if_pos c] at h; cases h
  · rw [if_neg c] at h; exact ⟨c, Option.some.inj h⟩
def okT (t : FieldType) : Bool := match t with
  | .long => false
  | .float => false
  | .double => false
  | _ => true
theorem fV_new {t : FieldType} (h : okT t = true) (z : Sh) (c : Nat) (J : MJ) (I : MI) (k : Nat) : defaultValue t = fV t (zNw z c) J (clr 0 I (zs z)) (zs z) k := by
  have hr : zR (zNw z c) (zs z) k = none := by show (if zs z = zs z then fun _ => none else zR z (zs z)) k = none; rw [if_pos rfl]
  have hi : clr 0 I (zs z) (zs z) k = 0 := by rw [clr_self]
  cases t <;> first | (cases h; done) | (simp only [fV, hr, hi]; rfl)
def okL (t : FieldType) : Bool := match t with
  | .float => false
  | .double => false
  | _ => true
theorem fV_newL {t : FieldType} (h : okL t = true) (z : Sh) (c : Nat) (J : MJ) (I : MI) (k : Nat) : defaultValue t = fV t (zNw z c) (clr 0 J (zs z)) (clr 0 I (zs z)) (zs z) k := by
  have hr : zR (zNw z c) (zs z) k = none := by show (if zs z = zs z then fun _ => none else zR z (zs z)) k = none; rw [if_pos rfl]
  have hi : clr 0 I (zs z) (zs z) k = 0 := by rw [clr_self]
  have hj : clr 0 J (zs z) (zs z) k = 0 := by rw [clr_self]
  cases t <;> first | (cases h; done) | (simp only [fV, hr, hi, hj]; rfl)
theorem df0 (z : Sh) (J : MJ) (I : MI) : ∀ k, k < 13 → defaultValue (tyX0 k) = fV (fT 0 k) (zNw z 0) J (clr 0 I (zs z)) (zs z) k := fun k hk => fV_new ((show ∀ k, k < 13 → okT (tyX0 k) = true by decide) k hk) z 0 J I k
theorem df1 (z : Sh) (J : MJ) (I : MI) : ∀ k, k < 10 → defaultValue (tyX1 k) = fV (fT 1 k) (zNw z 1) J (clr 0 I (zs z)) (zs z) k := fun k hk => fV_new ((show ∀ k, k < 10 → okT (tyX1 k) = true by decide) k hk) z 1 J I k
theorem df2 (z : Sh) (J : MJ) (I : MI) : ∀ k, k < 7 → defaultValue (tyX2 k) = fV (fT 2 k) (zNw z 2) J (clr 0 I (zs z)) (zs z) k := fun k hk => fV_new ((show ∀ k, k < 7 → okT (tyX2 k) = true by decide) k hk) z 2 J I k
theorem df3 (z : Sh) (J : MJ) (I : MI) : ∀ k, k < 17 → defaultValue (tyX3 k) = fV (fT 3 k) (zNw z 3) J (clr 0 I (zs z)) (zs z) k := fun k hk => fV_new ((show ∀ k, k < 17 → okT (tyX3 k) = true by decide) k hk) z 3 J I k
theorem df4 (z : Sh) (J : MJ) (I : MI) : ∀ k, k < 13 → defaultValue (tyX4 k) = fV (fT 4 k) (zNw z 4) J (clr 0 I (zs z)) (zs z) k := fun k hk => fV_new ((show ∀ k, k < 13 → okT (tyX4 k) = true by decide) k hk) z 4 J I k
theorem df5 (z : Sh) (J : MJ) (I : MI) : ∀ k, k < 42 → defaultValue (tyX5 k) = fV (fT 5 k) (zNw z 5) (clr 0 J (zs z)) (clr 0 I (zs z)) (zs z) k := fun k hk => fV_newL ((show ∀ k, k < 42 → okL (tyX5 k) = true by decide) k hk) z 5 J I k
theorem ct_cast {E : Ev} {d d' : Nat} {y : MethodName} {cc : ByteArray} {n : Nat} {ret : Option FieldType} {mc ms : Nat} {as : List Value} {z : Sh} {J : MJ} {I : MI} {o : Option Value} {z' : Sh} {J' : MJ} {I' : MI} (e : d = d') (h : Ct E d y cc n ret mc ms as z J I o z' J' I') : Ct E d' y cc n ret mc ms as z J I o z' J' I' := e ▸ h
theorem ocN {α : Type} {a r : α} {b : Nat → α} (h : oc none a b = r) : a = r := h
theorem ocS {α : Type} {a r : α} {b : Nat → α} {x : Nat} (h : oc (some x) a b = r) : b x = r := h
section More
variable {E : Ev} {X : Xt} {Q : State → Prop} {n : Nat} {pc index d MC MS : Nat} {ls ls' : List (Nat × Value)} {st : List Value} {z z' : Sh} {J J' : MJ} {I I' : MI} {uc us : Nat} {cc : ByteArray} {ret : Option FieldType} {own : String} {a b t u : Nat}
theorem g_nmz (h : nm z = some z') (k : GW E X Q n pc ls st z' J I uc us) : GW E X Q n pc ls st z J I uc us := by obtain rfl := Option.some.inj h; exact k
theorem g_nmM (h : nm I = some I') (k : GW E X Q n pc ls st z J I' uc us) : GW E X Q n pc ls st z J I uc us := by obtain rfl := Option.some.inj h; exact k
theorem g_nmMJ (h : nm J = some J') (k : GW E X Q n pc ls st z J' I uc us) : GW E X Q n pc ls st z J I uc us := by obtain rfl := Option.some.inj h; exact k
theorem g_astore_nN (hX : Cx E X cc n ret own) {m : Fin 4} {i : Nat} (ks : List Nat) (hd : decode cc pc = .ok (.astore_n m, 1)) (hi : (m : Nat) = i) (hn : i < n) (hp : lv_pick ((i, Value.null) :: ls.filter (fun q => !(q.1 == i) && !(q.1 + 1 == i && q.2.category == 2))) ks = ls') (k : GW E X Q n (pc + 1) ls' st z J I uc us) : GW E X Q n pc ls (.null :: st) z J I uc us := fun H locs lsA hR hS hl => lv_astore_nN hX.ex hX.cd hd hi hl hn rfl (fun ls2 h2 => k H locs ls2 hR hS (lv_sub h2 ks hp))
theorem g_aastoreE (hX : Cx E X cc n ret own) {m v : Nat} {i : Int32} (ha : a ∈ zL z) (hk : zK z a = 10) (hm : zn z a = m) (hv : v ∈ zL z) (hvk : zK z v = 0) (h : wz m z a i v = some z') (hd : decode cc pc = .ok (.aastore, 1)) (kk : GW E X Q n (pc + 1) ls st z' J I uc us) : GW E X Q n pc ls (.ref v :: .int i :: .ref a :: st) z J I uc us := by
  obtain ⟨hi, rfl⟩ := wz_some h
  exact g_aastore hX ha hk hm hv hvk hi hd kk
theorem gfq4_12 (hX : Cx E X cc n ret own) (h : oX4 z a t u) (hw : Cond.fieldLink own index "WaveWall" "thought" "LWaveWall$Floor;" ∈ wU) (hd : decode cc pc = .ok (.getfield index, 3)) {v : Option Nat} (hv : nm (zR z a 12) = some v) (kk : GW E X Q n (pc + 3) ls (va_rf v :: st) z J I uc us) : GW E X Q n pc ls (.ref a :: st) z J I uc us := by
  obtain rfl := Option.some.inj hv
  exact g_get hX 4 12 h.1.1 h.1.2 (by decide) rfl (by decide) inl_X4 hw rfl hd kk
theorem g_ldcS (hX : Cx E X cc n ret own) {ad av : Nat → Nat} (hE : EvOk E ad av) {tx : String} (i : Nat) (hq : (own, index, tx, i) ∈ strL) (hd : decode cc pc = .ok (.ldc index, 2)) (kk : GW E X Q n (pc + 2) ls (.ref (ad i) :: st) z J I uc us) : GW E X Q n pc ls st z J I uc us :=
  fun H locs lsA hR hS hl => va_ldcS hX.ex hX.cd hX.ow ((hE.2 _ hX.kw.2.2.1).2.1 _ hq) hd (kk H locs lsA hR hS hl)
end More
