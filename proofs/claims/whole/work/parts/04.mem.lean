/-! fields and rows written, cells made, calls, returns -/
theorem cE_congr {cy : Nat → ClassId} {z z' : Sh} {J J' : MJ} {I I' : MI} {b : Nat} (hI : I' b = I b) (hJ : J' b = J b) (hR : zR z' b = zR z b) (hK : zK z' b = zK z b) (hn : zn z' b = zn z b) : cE cy z' J' I' b = cE cy z J I b := by
  have hf : ∀ t k, fV t z' J' I' b k = fV t z J I b k := by
    intro t k
    cases t <;> simp only [fV, hI, hJ, hR]
  unfold cE fL
  simp only [hK, hn, hI, hJ, hR, hf]
theorem fL_set {z z' : Sh} {J J' : MJ} {I I' : MI} {a c k : Nat} {v : Value} (hk : fV (fT c k) z' J' I' a k = v) (ho : ∀ j, j ≠ k → fV (fT c j) z' J' I' a j = fV (fT c j) z J I a j) : (fL z J I a c).set k v = fL z' J' I' a c := by
  apply List.ext_getElem?
  intro j
  unfold fL
  rw [List.getElem?_set]
  by_cases h : k = j
  · subst h
    rw [if_pos rfl, List.length_map, List.length_range, List.getElem?_map]
    by_cases hl : k < nF c
    · rw [if_pos hl, List.getElem?_range hl]; simp [hk]
    · rw [if_neg hl, List.getElem?_eq_none (by simpa using hl)]; rfl
  · rw [if_neg h, List.getElem?_map, List.getElem?_map]
    cases hj : (List.range (nF c))[j]? with
    | none => rfl
    | some x =>
      have hx : x = j := by
        have := List.getElem?_range (n := nF c) (i := j)
        have hl := (List.getElem?_eq_some_iff.mp hj).1
        rw [this (by simpa using hl)] at hj
        exact (Option.some.inj hj).symm
      subst hx
      simp [ho x (fun q => h q.symm)]
section Mem
variable {E : Ev} {X : Xt} {Q : State → Prop} {n : Nat} {pc : Nat} {ls : List (Nat × Value)} {st : List Value} {z z' : Sh} {J J' : MJ} {I I' : MI} {uc us : Nat} {cc : ByteArray} {ret : Option FieldType} {own : String}
theorem g_putG (hX : Cx E X cc n ret own) {C : String} {T : u_T} {N a index : Nat} (c k : Nat) {v : Value} (ha : a ∈ zL z) (hk : zK z a = c) (hc6 : c < 6) (hc : vwCl[c]? = some (C, T, N)) (hkN : k < N) (hin : ∀ w ∈ u_ws C T N, w ∈ wU) (ty0 : Nat → FieldType) (hty : ∀ k, k < N → parseFieldDescriptor (T k).2.2.1 = some (ty0 k)) (hnm : ∀ a, a < N → ∀ b, b < N → a ≠ b → (T a).2.1 ≠ (T b).2.1)
    (hw : Cond.fieldLink own index (T k).1 (T k).2.1 (T k).2.2.1 ∈ wU) (hfin : (T k).2.2.2 = false ∨ ((T k).2.2.2 = true ∧ (xH X).name = "<init>" ∧ (T k).1 = own)) (hn : narrow (ty0 k) v = v) (hfit : fits (ty0 k) v = true) (hlen : k < (fL z J I a c).length) (hd : decode cc pc = .ok (.putfield index, 3))
    (hset : (fL z J I a c).set k v = fL z' J' I' a c) (ho : ∀ b, b ≠ a → cE (eC E) z' J' I' b = cE (eC E) z J I b) (hs : zs z' = zs z) (hL : zL z' = zL z) (hK' : zK z' a = c)
    (kk : GW E X Q n (pc + 3) ls st z' J' I' uc us) : GW E X Q n pc ls (v :: .ref a :: st) z J I uc us := by
  intro H locs lsA hR hS hl
  have hap := va_apart (own := own) hX.ht hin ty0 hty hnm hX.kk hc
  obtain ⟨r, h1, cell, q1, q2, q3, q4⟩ := (hR.one ha (cE_o hk hc6)) 0 _ rfl
  have hr : r = (C, T, N) := Option.some.inj (h1.symm.trans hc)
  subst hr
  obtain ⟨hSl, hfc, kC, hkC, hkind⟩ := hX.kk.1 c _ hc
  obtain ⟨cf, kf, fi, f, hi, hsl⟩ := hSl k hkN
  have hst := (u_facts hfc hkC (u_lays hX.ht hin hkN) hi).1
  have fin : ∀ (H' : Heap), H'[a]? = some (cell.setSlot ((eD E).2 c k) v) → H'.size = H.size → (∀ q, q ≠ a → H'[q]? = H[q]?) → WX E X H' (locs ++ [⟨a, (eD E).2 c k⟩]) uc us Q (F0 (xM X) (pc + 3) lsA st) := by
    intro H' e1 e2 e3
    have hat : va_at (eD E) vwCl (a, cE (eC E) z' J' I' a) H' := by
      rw [cE_o hK' hc6, ← hset]
      exact ⟨_, hc, t_OB.to (V := updV (vp_V (fL z J I a c)) k v) ⟨_, e1, q2, q3, t_set q4 hap hkN v⟩ (fun j _ => vp_updV_set hlen v j)⟩
    exact kk H' _ lsA (hR.set ha e2 e3 hat (fun b _ => ho b) hs hL) (hS.put e2 e3 (hR.2.2.2 a ha).1) hl
  rcases hfin with hfin | ⟨hfin, hin2, hdecl⟩
  · have hlay := hX.ht _ (hin _ (u_in_lay hkN))
    unfold u_lay at hlay
    rw [if_neg (by rw [hfin]; decide)] at hlay
    have h6 := u_store hfc hkC hkind hlay hi (hty k hkN) hn hfit
    refine W.putK hX.ex hX.cd (f := f) ⟨hX.ow, hX.ht _ hw, ⟨_, _, _, hi⟩, hst⟩ (by rw [q2]; exact h6) q1 q3 (by rw [hsl]; exact k2_hasslot (q4 k hkN)) rfl rfl hd fun H' e1 e2 e3 => ?_
    rw [hsl] at e1 ⊢
    exact fin H' e1 e2 e3
  · have hlay := hX.ht _ (hin _ (u_in_lay hkN))
    unfold u_lay at hlay
    rw [if_pos hfin] at hlay
    have hcf : (xM X).cls = cf := by
      obtain ⟨_, _, c', _, _, _, -, -, hf', -, -, -, hown2, -⟩ := Cond.laysFinal_spec hlay
      have e1 : c' = cf := by have := hi.symm.trans hf'; simp at this; exact this.1.symm
      rw [hdecl] at hown2
      rw [← e1]; exact Option.some.inj (hX.ow.symm.trans hown2)
    have h6 := u_fits hfc hkC hkind (Or.inr hlay) hi (hty k hkN) hn hfit
    refine W.putFinK hX.ex hX.cd hX.ow (hX.ht _ hw) hi hst hcf hin2 (by rw [q2]; exact h6) q1 q3 (by rw [hsl]; exact k2_hasslot (q4 k hkN)) rfl rfl hd fun H' e1 e2 e3 => ?_
    rw [hsl] at e1 ⊢
    exact fin H' e1 e2 e3
/-- an int row's element read -/
theorem g_iaload (hX : Cx E X cc n ret own) {a m : Nat} {i : Int32} (ha : a ∈ zL z) (hk : zK z a = 7) (hm : zn z a = m) (hi : vp_in i m) (hd : decode cc pc = .ok (.iaload, 1)) (kk : GW E X Q n (pc + 1) ls (.int (I a i.toNatClampNeg) :: st) z J I uc us) : GW E X Q n pc ls (.int i :: .ref a :: st) z J I uc us :=
  fun H locs lsA hR hS hl => va_iald hX.ex hX.cd hX.kk (hR.one ha (cE_i hk hm (Or.inr (Or.inl rfl)))) 0 1 rfl rfl hi hd (kk H locs lsA hR hS hl)
theorem g_baload (hX : Cx E X cc n ret own) {a m : Nat} {i : Int32} (ha : a ∈ zL z) (hk : zK z a = 6) (hm : zn z a = m) (hi : vp_in i m) (hd : decode cc pc = .ok (.baload, 1)) (kk : GW E X Q n (pc + 1) ls (.int (I a i.toNatClampNeg) :: st) z J I uc us) : GW E X Q n pc ls (.int i :: .ref a :: st) z J I uc us :=
  fun H locs lsA hR hS hl => va_bald hX.ex hX.cd hX.kk (hR.one ha (cE_i hk hm (Or.inl rfl))) 0 0 rfl rfl hi hd (kk H locs lsA hR hS hl)
theorem g_zaload (hX : Cx E X cc n ret own) {a m : Nat} {i : Int32} (ha : a ∈ zL z) (hk : zK z a = 9) (hm : zn z a = m) (hi : vp_in i m) (hd : decode cc pc = .ok (.baload, 1)) (kk : GW E X Q n (pc + 1) ls (.int (I a i.toNatClampNeg) :: st) z J I uc us) : GW E X Q n pc ls (.int i :: .ref a :: st) z J I uc us :=
  fun H locs lsA hR hS hl => va_zald hX.ex hX.cd hX.kk (hR.one ha (cE_i hk hm (Or.inr (Or.inr rfl)))) 0 3 rfl rfl hi hd (kk H locs lsA hR hS hl)
theorem g_laload (hX : Cx E X cc n ret own) {a m : Nat} {i : Int32} (ha : a ∈ zL z) (hk : zK z a = 8) (hm : zn z a = m) (hi : vp_in i m) (hd : decode cc pc = .ok (.laload, 1)) (kk : GW E X Q n (pc + 1) ls (.long (J a i.toNatClampNeg) :: st) z J I uc us) : GW E X Q n pc ls (.int i :: .ref a :: st) z J I uc us :=
  fun H locs lsA hR hS hl => va_lald hX.ex hX.cd hX.kk (hR.one ha (cE_j hk hm)) 0 2 rfl rfl hi hd (kk H locs lsA hR hS hl)
theorem g_aaload (hX : Cx E X cc n ret own) {a m : Nat} {i : Int32} (ha : a ∈ zL z) (hk : zK z a = 10) (hm : zn z a = m) (hi : vp_in i m) (hd : decode cc pc = .ok (.aaload, 1)) (kk : GW E X Q n (pc + 1) ls (va_rf (zR z a i.toNatClampNeg) :: st) z J I uc us) : GW E X Q n pc ls (.int i :: .ref a :: st) z J I uc us :=
  fun H locs lsA hR hS hl => va_aldq hX.ex hX.cd hX.kk (hR.one ha (cE_q hk hm)) 0 4 rfl rfl hi hd (kk H locs lsA hR hS hl)
theorem g_arraylength (hX : Cx E X cc n ret own) {a m c : Nat} {v : Int32} (ha : a ∈ zL z) (hk : zK z a = c) (hm : zn z a = m) (hc : c = 6 ∨ c = 7 ∨ c = 9) (hv : Int32.ofNat m = v) (hd : decode cc pc = .ok (.arraylength, 1)) (kk : GW E X Q n (pc + 1) ls (.int v :: st) z J I uc us) : GW E X Q n pc ls (.ref a :: st) z J I uc us := by
  intro H locs lsA hR hS hl
  have h1 := hR.one ha (cE_i hk hm hc)
  rcases hc with rfl | rfl | rfl
  · exact va_alen hX.ex hX.cd hX.kk h1 0 0 rfl rfl hv hd (kk H locs lsA hR hS hl)
  · exact va_alen hX.ex hX.cd hX.kk h1 0 1 rfl rfl hv hd (kk H locs lsA hR hS hl)
  · exact va_alen hX.ex hX.cd hX.kk h1 0 3 rfl rfl hv hd (kk H locs lsA hR hS hl)
theorem mst_upd (f : MI) (a k : Nat) (x : Int32) : mst f a k x a = upd (f a) k x := by
  funext j
  by_cases h : j = k <;> simp [mst, upd, h]
theorem cE_mst {cy : Nat → ClassId} {z : Sh} {J : MJ} {I : MI} {a k b : Nat} {x : Int32} (h : b ≠ a) : cE cy z J (mst I a k x) b = cE cy z J I b := cE_congr (mst_row I k x h) rfl rfl rfl rfl
theorem cE_mstJ {cy : Nat → ClassId} {z : Sh} {J : MJ} {I : MI} {a k b : Nat} {x : Int64} (h : b ≠ a) : cE cy z (mst J a k x) I b = cE cy z J I b := cE_congr rfl (mst_row J k x h) rfl rfl rfl
theorem storeV (cI : ClassId) (m k : Nat) (f : Nat → Int32) (x : Int32) : (arrV cI m (fun j => .int (f j))).setSlot k (.int x) = arrV cI m (fun j => .int (upd f k x j)) := by
  rw [arrV_store]
  congr 1
  funext j
  by_cases h : j = k <;> simp [updV, upd, h]
theorem g_iastore (hX : Cx E X cc n ret own) {a m : Nat} {i x : Int32} (ha : a ∈ zL z) (hk : zK z a = 7) (hm : zn z a = m) (hi : vp_in i m) (hd : decode cc pc = .ok (.iastore, 1)) (kk : GW E X Q n (pc + 1) ls st z J (mst I a i.toNatClampNeg x) uc us) : GW E X Q n pc ls (.int x :: .int i :: .ref a :: st) z J I uc us := by
  intro H locs lsA hR hS hl
  have h1 := hR.one ha (cE_i hk hm (Or.inr (Or.inl rfl))) 0 _ rfl
  refine W.iast hX.ex hX.cd h1 ((hX.kk.2 1 _ rfl).1 m (fun j => .int (I a j))) (fun q => by cases q) (by show ¬ (i < 0 ∨ (arrV _ _ _).slots.size ≤ _); rw [arrV_size]; exact hi) rfl rfl hd fun H1 e z1 oq => ?_
  refine kk H1 _ lsA (hR.set ha z1 oq ?_ (fun b _ hb => cE_mst hb) rfl rfl) (hS.put z1 oq (hR.2.2.2 a ha).1) hl
  rw [cE_i hk hm (Or.inr (Or.inl rfl)), mst_upd]
  exact e.trans (congrArg some (storeV _ _ _ _ _))
theorem g_bastore (hX : Cx E X cc n ret own) {a m : Nat} {i x : Int32} (ha : a ∈ zL z) (hk : zK z a = 6) (hm : zn z a = m) (hi : vp_in i m) (hd : decode cc pc = .ok (.bastore, 1)) (kk : GW E X Q n (pc + 1) ls st z J (mst I a i.toNatClampNeg x.toInt8.toInt32) uc us) : GW E X Q n pc ls (.int x :: .int i :: .ref a :: st) z J I uc us := by
  intro H locs lsA hR hS hl
  have h1 := hR.one ha (cE_i hk hm (Or.inl rfl)) 0 _ rfl
  refine W.bast hX.ex hX.cd h1 ((hX.kk.2 0 _ rfl).1 m (fun j => .int (I a j))) (fun q => by cases q) (by show ¬ (i < 0 ∨ (arrV _ _ _).slots.size ≤ _); rw [arrV_size]; exact hi) rfl rfl hd fun H1 e z1 oq => ?_
  refine kk H1 _ lsA (hR.set ha z1 oq ?_ (fun b _ hb => cE_mst hb) rfl rfl) (hS.put z1 oq (hR.2.2.2 a ha).1) hl
  rw [cE_i hk hm (Or.inl rfl), mst_upd]
  exact e.trans (congrArg some (storeV _ _ _ _ _))
theorem g_zastore (hX : Cx E X cc n ret own) {a m : Nat} {i x y : Int32} (ha : a ∈ zL z) (hk : zK z a = 9) (hm : zn z a = m) (hi : vp_in i m) (hy : narrow .boolean (.int x) = .int y) (hd : decode cc pc = .ok (.bastore, 1)) (kk : GW E X Q n (pc + 1) ls st z J (mst I a i.toNatClampNeg y) uc us) : GW E X Q n pc ls (.int x :: .int i :: .ref a :: st) z J I uc us := by
  intro H locs lsA hR hS hl
  have h1 := hR.one ha (cE_i hk hm (Or.inr (Or.inr rfl))) 0 _ rfl
  refine W.zast hX.ex hX.cd h1 ((hX.kk.2 3 _ rfl).1 m (fun j => .int (I a j))) (fun q => by cases q) (by show ¬ (i < 0 ∨ (arrV _ _ _).slots.size ≤ _); rw [arrV_size]; exact hi) rfl rfl hd fun H1 e z1 oq => ?_
  refine kk H1 _ lsA (hR.set ha z1 oq ?_ (fun b _ hb => cE_mst hb) rfl rfl) (hS.put z1 oq (hR.2.2.2 a ha).1) hl
  rw [cE_i hk hm (Or.inr (Or.inr rfl)), mst_upd]
  rw [hy] at e
  exact e.trans (congrArg some (storeV _ _ _ _ _))
theorem g_lastore (hX : Cx E X cc n ret own) {a m : Nat} {i : Int32} {x : Int64} (ha : a ∈ zL z) (hk : zK z a = 8) (hm : zn z a = m) (hi : vp_in i m) (hd : decode cc pc = .ok (.lastore, 1)) (kk : GW E X Q n (pc + 1) ls st z (mst J a i.toNatClampNeg x) I uc us) : GW E X Q n pc ls (.long x :: .int i :: .ref a :: st) z J I uc us := by
  intro H locs lsA hR hS hl
  have h1 := hR.one ha (cE_j hk hm) 0 _ rfl
  refine W.last hX.ex hX.cd h1 ((hX.kk.2 2 _ rfl).1 m (fun j => .long (J a j))) (fun q => by cases q) (by show ¬ (i < 0 ∨ (arrV _ _ _).slots.size ≤ _); rw [arrV_size]; exact hi) rfl rfl hd fun H1 e z1 oq => ?_
  refine kk H1 _ lsA (hR.set ha z1 oq ?_ (fun b _ hb => cE_mstJ hb) rfl rfl) (hS.put z1 oq (hR.2.2.2 a ha).1) hl
  rw [cE_j hk hm]
  refine e.trans (congrArg some ?_)
  show (vp_cell (eC E 8) (m, .inr (.inl (J a)))).setSlot _ _ = vp_cell (eC E 8) (m, .inr (.inl (mst J a i.toNatClampNeg x a)))
  rw [vp_cell_l, vp_cell_l, arrV_store]
  congr 1
  funext j
  by_cases h : j = i.toNatClampNeg <;> simp [updV, mst, h]
theorem g_ireturn (hX : Cx E X cc n (some .int) own) {v : Int32} {mc ms : Nat} (h1 : uc ≤ mc) (h2 : us ≤ ms) (hd : decode cc pc = .ok (.ireturn, 1)) : GW E X (QX E X mc ms (some (.int v)) z J I) n pc ls [.int v] z J I uc us :=
  fun H locs lsA hR hS hl => W.widen h1 h2 (W.iret hX.ex hX.cd hX.rt (fun t ht _ => ⟨rfl, by rw [ht]; exact hR⟩) hS.2.2 hd (hlocks := hX.lk))
theorem g_zreturn (hX : Cx E X cc n (some .boolean) own) {v : Int32} {mc ms : Nat} (hb : v = 0 ∨ v = 1) (h1 : uc ≤ mc) (h2 : us ≤ ms) (hd : decode cc pc = .ok (.ireturn, 1)) : GW E X (QX E X mc ms (some (.int v)) z J I) n pc ls [.int v] z J I uc us :=
  fun H locs lsA hR hS hl => W.widen h1 h2 (W.zret hX.ex hX.cd hX.rt (by rcases hb with rfl | rfl <;> rfl) (fun t ht _ => ⟨rfl, by rw [ht]; exact hR⟩) hS.2.2 hd (hlocks := hX.lk))
theorem g_lreturn (hX : Cx E X cc n (some .long) own) {v : Int64} {mc ms : Nat} (h1 : uc ≤ mc) (h2 : us ≤ ms) (hd : decode cc pc = .ok (.lreturn, 1)) : GW E X (QX E X mc ms (some (.long v)) z J I) n pc ls [.long v] z J I uc us :=
  fun H locs lsA hR hS hl => W.widen h1 h2 (W.lret hX.ex hX.cd hX.rt (fun t ht _ => ⟨rfl, by rw [ht]; exact hR⟩) hS.2.2 hd (hlocks := hX.lk))
theorem g_return (hX : Cx E X cc n none own) {mc ms : Nat} (h1 : uc ≤ mc) (h2 : us ≤ ms) (hd : decode cc pc = .ok (.return_, 1)) : GW E X (QX E X mc ms none z J I) n pc ls [] z J I uc us :=
  fun H locs lsA hR hS hl => W.widen h1 h2 (W.vret hX.ex hX.cd hX.rt (fun t ht _ => ⟨rfl, by rw [ht]; exact hR⟩) hS.2.2 hd (hlocks := hX.lk))
end Mem
