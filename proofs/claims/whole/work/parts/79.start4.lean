/-! the class made -/
def Xs (x : Nat) (z : Sh) (l : Nat → Option Nat) : Prop := (x ∈ zL z ∧ zK z x = 4) ∧ zR z x = l
def Rw (z : Sh) (b c n : Nat) : Prop := b ∈ zL z ∧ zK z b = c ∧ zn z b = n
theorem Xs.ex {x b : Nat} {z z' : Sh} {l : Nat → Option Nat} (h : Xs x z l) (e : Ext b z z') (hb : x < b) : Xs x z' l := ⟨⟨(e x hb).1 h.1.1, (e x hb).2.1.trans h.1.2⟩, (e x hb).2.2.2.trans h.2⟩
theorem Xs.st {x k : Nat} {z : Sh} {l : Nat → Option Nat} {v : Option Nat} (h : Xs x z l) : Xs x (zSt z x k v) (pu l k v) := ⟨h.1, by
  show mst (zR z) x k v x = _
  rw [ms_r, h.2]⟩
theorem Xs.raw {x : Nat} {z : Sh} {l : Nat → Option Nat} (h : Xs x z l) (hs : x < zs z) : raw z x 4 := ⟨h.1.1, h.1.2, hs⟩
theorem Rw.ex {b c n d : Nat} {z z' : Sh} (h : Rw z b c n) (e : Ext d z z') (hb : b < d) : Rw z' b c n := ⟨(e b hb).1 h.1, (e b hb).2.1.trans h.2.1, (e b hb).2.2.1.trans h.2.2⟩
theorem Rw.na {z : Sh} {c n : Nat} : Rw (zNa z c n) (zs z) c n := ⟨List.mem_append_right _ (List.mem_singleton.mpr rfl), va_up_self _ _ _, va_up_self _ _ _⟩
theorem ob_raw {z : Sh} {a c : Nat} {L : List (Nat × Nat × Nat × Nat)} (h : oL z a c L) (hs : a < zs z) : raw z a c := ⟨h.1.1, h.1.2, hs⟩
theorem Ext.rr {a b k : Nat} {z z' : Sh} {v : Option Nat} (e : Ext a z z') (hb : b < a) : Ext a (zSt z b k v) (zSt z' b k v) := fun c hc => ⟨(e c hc).1, (e c hc).2.1, (e c hc).2.2.1, by
  show mst (zR z') b k v c = mst (zR z) b k v c
  funext j
  by_cases q : c = b
  · subst q
    rw [ms_r, ms_r, (e c hc).2.2.2]
  · rw [mst_row _ _ _ q, mst_row _ _ _ q, (e c hc).2.2.2]⟩
theorem z0_3 {I : MI} {a : Nat} (h : Zs 0 I a [1, 2, 3, 4, 5, 6, 7, 8, 9]) (f : I a 1 = 4 ∧ I a 3 = 4 ∧ I a 4 = 30 ∧ I a 6 = 0 ∧ I a 10 = 0) : CT I a (tB B0 (fun _ => 0)) := by
  obtain ⟨f1, f3, f4, f6, f10⟩ := f
  refine ⟨⟨f6, f10, f1, f3, f4⟩, fun i hi => absurd hi (Nat.not_lt_zero _), fun o ho => absurd ho (Nat.not_lt_zero _), fun c hc => ?_, fun o ho => ?_, fun o ho => ?_, fun e he => absurd he (Nat.not_lt_zero _)⟩
  · rw [(h 6 (by decide)).2]; rfl
  · rw [(h 7 (by decide)).2, show tot (tB B0 (fun _ => 0)) o = 0 from sm_z (fun i hi => rfl)]; rfl
  · rw [(h 8 (by decide)).2]; rfl
theorem in_2 {z : Sh} {I : MI} {a : Nat} : Ok (f_X2_init a z I) (fun r => r.1 = zSt z a 0 none ∧ ∀ b, b ≠ a → r.2 b = I b) := by
  unfold f_X2_init
  refine ok_nm (ok_wq (fun I1 h1 => ok_wq (fun I2 h2 => ok_wq (fun I3 h3 => ok_wq (fun I4 h4 => ok_wq (fun I5 h5 => ok_wq (fun I6 h6 => ok_some ⟨rfl, fun b hb => ?_⟩)))))))
  show I6 b = I b
  rw [h6, mst_row _ _ _ hb, h5, mst_row _ _ _ hb, h4, mst_row _ _ _ hb, h3, mst_row _ _ _ hb, h2, mst_row _ _ _ hb, h1, mst_row _ _ _ hb]
set_option maxHeartbeats 4000000 in
theorem in_4 {z : Sh} {I : MI} {x : Nat} (sz : zs z = x + 1) (hx : x ∈ zL z ∧ zK z x = 4) : Ok (f_X4_init x z I) (fun r => (zs r.1 = x + 45 ∧ oX4 r.1 x (x + 3) (x + 13) ∧ (∀ s, s < 15 → slt x r.1 s = none)) ∧ CT r.2 (x + 3) (tB B0 (fun _ => 0)) ∧ CF 0 r.2 (x + 23) (fl1 (fun _ => 0)) ∧ r.2 x 1 = 0 ∧ r.2 x 8 = 0 ∧ r.2 x 9 = 0 ∧ r.2 (x + 44) = fun _ => 0) := by
  unfold f_X4_init
  have X0 : Xs x z (zR z x) := ⟨hx, rfl⟩
  refine ok_nq fun z2 ez2 => ?_
  refine ok_nq fun I1 eI1 => ?_
  refine ok_nq fun z4 ez4 => ?_
  refine ok_wq fun I6 eI6 => ?_
  rw [sz] at ez4 eI1
  have s2 : zs z2 = x + 2 := by rw [ez2]; show zs z + 1 = _; omega
  have X2 : Xs x z2 (zR z x) := by rw [ez2]; exact X0.ex (Ext.na 6 600 (Nat.le_refl _)) (by omega)
  have T2 : Rw z2 (x + 1) 6 600 := by rw [ez2, ← sz]; exact Rw.na
  have s4 : zs z4 = x + 2 := by rw [ez4]; exact s2
  have X4 : Xs x z4 (pu (zR z x) 0 (some (x + 1))) := by rw [ez4]; exact X2.st
  have T4 : Rw z4 (x + 1) 6 600 := by rw [ez4]; exact T2
  have m6 : I6 x 1 = 0 := by rw [eI6, mst_self]
  refine ok_nq fun z8 ez8 => ?_
  refine ok_nq fun I7 eI7 => ?_
  rw [s4] at eI7 ⊢
  have s8 : zs z8 = x + 3 := by rw [ez8]; show zs z4 + 1 = _; omega
  have e8 : Ext (x + 2) z4 z8 := by rw [ez8]; exact Ext.nw 2 (by omega)
  have R8 : raw z8 (x + 2) 2 := by rw [ez8, ← s4]; exact raw.new 2
  have m7 : I7 x 1 = 0 := by rw [eI7, clr_ne _ _ (by omega)]; exact m6
  refine ok_bind in_2 (fun r11 h11 => ?_)
  obtain ⟨a11, b11⟩ := h11
  have s11 : zs r11.1 = x + 3 := by rw [a11]; exact s8
  have X11 : Xs x r11.1 (pu (zR z x) 0 (some (x + 1))) := by rw [a11]; exact (X4.ex e8 (by omega)).ex (Ext.st (a := x + 2) (Nat.le_refl _)) (by omega)
  have T11 : Rw r11.1 (x + 1) 6 600 := by rw [a11]; exact T4.ex e8 (by omega)
  have R11 : raw r11.1 (x + 2) 2 := by rw [a11]; exact R8
  have m11 : r11.2 x 1 = 0 := by rw [b11 x (by omega)]; exact m7
  refine ok_gd (by omega) (ok_gd (X11.raw (by omega)) (ok_gd R11 (ok_nq fun z15 ez15 => ?_)))
  have s15 : zs z15 = x + 3 := by rw [ez15]; exact s11
  have X15 := X11.st (k := 2) (v := some (x + 2))
  rw [← ez15] at X15
  have T15 : Rw z15 (x + 1) 6 600 := by rw [ez15]; exact T11
  have R15 : raw z15 (x + 2) 2 := by rw [ez15]; exact R11
  -- the first text
  refine ok_nq fun z18 ez18 => ?_
  refine ok_nq fun I17 eI17 => ?_
  rw [s15] at eI17 ⊢
  have L18 : Lay z18 (x + 3) 3 1 [] := by rw [ez18, ← s15]; exact Lay.new 3
  have e18 : Ext (x + 3) z15 z18 := by rw [ez18]; exact Ext.nw 3 (by omega)
  refine ok_bind (in_3 (I := I17) L18) (fun r21 h21 => ?_)
  obtain ⟨⟨s21, o21, e21⟩, l21, q21, c0, c1, c2, c3, c4, c5, c6, c10⟩ := h21
  have t21 := z0_3 q21 ⟨c1, c3, c4, c6, c10⟩
  have E21 := e18.tr e21
  have X21 := X15.ex E21 (by omega)
  have T21 := T15.ex E21 (by omega)
  have R21 : raw r21.1 (x + 2) 2 := ⟨(E21 _ (by omega)).1 R15.1, (E21 _ (by omega)).2.1.trans R15.2.1, by omega⟩
  have m21 : r21.2 x 1 = 0 := by rw [l21 x (by omega), eI17, clr_ne _ _ (by omega)]; exact m11
  refine ok_gd (by have := L18.1; omega) (ok_gd (X21.raw (by omega)) (ok_gd (ob_raw (L := lay3) o21 (by omega)) (ok_nq fun z25 ez25 => ?_)))
  have s25 : zs z25 = x + 13 := by rw [ez25]; show zs r21.1 = _; omega
  have X25 := X21.st (k := 3) (v := some (x + 3))
  rw [← ez25] at X25
  have T25 : Rw z25 (x + 1) 6 600 := by rw [ez25]; exact T21
  have R25 : raw z25 (x + 2) 2 := by rw [ez25]; exact R21
  have A25 : oX3 z25 (x + 3) := by rw [ez25]; exact oL.st (L := lay3) o21 (by omega)
  -- the second text
  refine ok_nq fun z28 ez28 => ?_
  refine ok_nq fun I27 eI27 => ?_
  rw [s25] at eI27 ⊢
  have L28 : Lay z28 (x + 13) 3 1 [] := by rw [ez28, ← s25]; exact Lay.new 3
  have e28 : Ext (x + 13) z25 z28 := by rw [ez28]; exact Ext.nw 3 (by omega)
  refine ok_bind (in_3 (I := I27) L28) (fun r31 h31 => ?_)
  obtain ⟨⟨s31, o31, e31⟩, l31, _⟩ := h31
  have E31 := e28.tr e31
  have X31 := X25.ex E31 (by omega)
  have T31 := T25.ex E31 (by omega)
  have R31 : raw r31.1 (x + 2) 2 := ⟨(E31 _ (by omega)).1 R25.1, (E31 _ (by omega)).2.1.trans R25.2.1, by omega⟩
  have A31 : oX3 r31.1 (x + 3) := A25.ext E31 (by omega)
  have g31 : ∀ b, b < x + 13 → r31.2 b = r21.2 b := fun b hb => by rw [l31 b hb, eI27, clr_ne _ _ (by omega)]
  refine ok_gd (by have := L28.1; omega) (ok_gd (X31.raw (by omega)) (ok_gd (ob_raw (L := lay3) o31 (by omega)) (ok_nq fun z35 ez35 => ?_)))
  have s35 : zs z35 = x + 23 := by rw [ez35]; show zs r31.1 = _; omega
  have X35 := X31.st (k := 4) (v := some (x + 13))
  rw [← ez35] at X35
  have T35 : Rw z35 (x + 1) 6 600 := by rw [ez35]; exact T31
  have R35 : raw z35 (x + 2) 2 := by rw [ez35]; exact R31
  have A35 : oX3 z35 (x + 3) := by rw [ez35]; exact oL.st (L := lay3) A31 (by omega)
  have B35 : oX3 z35 (x + 13) := by rw [ez35]; exact oL.st (L := lay3) o31 (by omega)
  -- the floor
  refine ok_nq fun z38 ez38 => ?_
  refine ok_nq fun I37 eI37 => ?_
  rw [s35] at eI37 ⊢
  have L38 : Lay z38 (x + 23) 0 1 [] := by rw [ez38, ← s35]; exact Lay.new 0
  have e38 : Ext (x + 23) z35 z38 := by rw [ez38]; exact Ext.nw 0 (by omega)
  refine ok_bind (in_0 (I := I37) L38) (fun r41 h41 => ?_)
  obtain ⟨⟨s41, o41, e41⟩, l41, f41⟩ := h41
  have E41 := e38.tr e41
  have X41 := X35.ex E41 (by omega)
  have T41 := T35.ex E41 (by omega)
  have R41 : raw r41.1 (x + 2) 2 := ⟨(E41 _ (by omega)).1 R35.1, (E41 _ (by omega)).2.1.trans R35.2.1, by omega⟩
  have A41 : oX3 r41.1 (x + 3) := A35.ext E41 (by omega)
  have B41 : oX3 r41.1 (x + 13) := B35.ext E41 (by omega)
  have g41 : ∀ b, b < x + 13 → r41.2 b = r21.2 b := fun b hb => by rw [l41 b (by omega), eI37, clr_ne _ _ (by omega)]; exact g31 b hb
  refine ok_gd (by have := L38.1; omega) (ok_gd (X41.raw (by omega)) (ok_gd (ob_raw (L := lay0) o41 (by omega)) (ok_nq fun z45 ez45 => ?_)))
  have s45 : zs z45 = x + 33 := by rw [ez45]; show zs r41.1 = _; omega
  have X45 := X41.st (k := 5) (v := some (x + 23))
  rw [← ez45] at X45
  have T45 : Rw z45 (x + 1) 6 600 := by rw [ez45]; exact T41
  have R45 : raw z45 (x + 2) 2 := by rw [ez45]; exact R41
  have A45 : oX3 z45 (x + 3) := by rw [ez45]; exact oL.st (L := lay3) A41 (by omega)
  have B45 : oX3 z45 (x + 13) := by rw [ez45]; exact oL.st (L := lay3) B41 (by omega)
  have C45 : oX0 z45 (x + 23) := by rw [ez45]; exact oL.st (L := lay0) o41 (by omega)
  -- the needs
  refine ok_nq fun z48 ez48 => ?_
  refine ok_nq fun I47 eI47 => ?_
  rw [s45] at eI47 ⊢
  have L48 : Lay z48 (x + 33) 1 1 [] := by rw [ez48, ← s45]; exact Lay.new 1
  have e48 : Ext (x + 33) z45 z48 := by rw [ez48]; exact Ext.nw 1 (by omega)
  refine ok_bind (in_1 (I := I47) L48) (fun r51 h51 => ?_)
  obtain ⟨⟨s51, o51, e51⟩, l51, _⟩ := h51
  have E51 := e48.tr e51
  have X51 := X45.ex E51 (by omega)
  have T51 := T45.ex E51 (by omega)
  have R51 : raw r51.1 (x + 2) 2 := ⟨(E51 _ (by omega)).1 R45.1, (E51 _ (by omega)).2.1.trans R45.2.1, by omega⟩
  have A51 : oX3 r51.1 (x + 3) := A45.ext E51 (by omega)
  have B51 : oX3 r51.1 (x + 13) := B45.ext E51 (by omega)
  have C51 : oX0 r51.1 (x + 23) := C45.ext E51 (by omega)
  have g51 : ∀ b, b < x + 13 → r51.2 b = r21.2 b := fun b hb => by rw [l51 b (by omega), eI47, clr_ne _ _ (by omega)]; exact g41 b hb
  have h51 : ∀ b, b < x + 33 → r51.2 b = r41.2 b := fun b hb => by rw [l51 b hb, eI47, clr_ne _ _ (by omega)]
  refine ok_gd (by have := L48.1; omega) (ok_gd (X51.raw (by omega)) (ok_gd (ob_raw (L := lay1) o51 (by omega)) (ok_nq fun z55 ez55 => ?_)))
  have s55 : zs z55 = x + 42 := by rw [ez55]; show zs r51.1 = _; omega
  have X55 := X51.st (k := 6) (v := some (x + 33))
  rw [← ez55] at X55
  have T55 : Rw z55 (x + 1) 6 600 := by rw [ez55]; exact T51
  have R55 : raw z55 (x + 2) 2 := by rw [ez55]; exact R51
  have A55 : oX3 z55 (x + 3) := by rw [ez55]; exact oL.st (L := lay3) A51 (by omega)
  have B55 : oX3 z55 (x + 13) := by rw [ez55]; exact oL.st (L := lay3) B51 (by omega)
  have C55 : oX0 z55 (x + 23) := by rw [ez55]; exact oL.st (L := lay0) C51 (by omega)
  have D55 : oX1 z55 (x + 33) := by rw [ez55]; exact oL.st (L := lay1) o51 (by omega)
  -- the rows of floors
  refine ok_nq fun z57 ez57 => ?_
  refine ok_nq fun z59 ez59 => ?_
  refine ok_wq fun I61 eI61 => ?_
  refine ok_wq fun I62 eI62 => ?_
  rw [s55] at ez59
  have e57 : Ext (x + 42) z55 z57 := by rw [ez57]; exact Ext.na 10 12 (by omega)
  have s57 : zs z57 = x + 43 := by rw [ez57]; show zs z55 + 1 = _; omega
  have U57 : Rw z57 (x + 42) 10 12 := by rw [ez57, ← s55]; exact Rw.na
  have u57 : zR z57 (x + 42) = fun _ => none := by rw [ez57, ← s55]; exact if_pos rfl
  have s59 : zs z59 = x + 43 := by rw [ez59]; exact s57
  have X59 := (X55.ex e57 (by omega)).st (k := 7) (v := some (x + 42))
  rw [← ez59] at X59
  have U59 : Rw z59 (x + 42) 10 12 := by rw [ez59]; exact U57
  have u59 : zR z59 (x + 42) = fun _ => none := by rw [ez59]; exact (mst_row _ _ _ (by omega)).trans u57
  have T59 : Rw z59 (x + 1) 6 600 := by rw [ez59]; exact T55.ex e57 (by omega)
  have R59 : Rw z59 (x + 2) 2 (zn z59 (x + 2)) := by rw [ez59]; exact ⟨(e57 _ (by omega)).1 R55.1, (e57 _ (by omega)).2.1.trans R55.2.1, rfl⟩
  have A59 : oX3 z59 (x + 3) := by rw [ez59]; exact oL.st (L := lay3) (A55.ext e57 (by omega)) (by omega)
  have B59 : oX3 z59 (x + 13) := by rw [ez59]; exact oL.st (L := lay3) (B55.ext e57 (by omega)) (by omega)
  have C59 : oX0 z59 (x + 23) := by rw [ez59]; exact oL.st (L := lay0) (C55.ext e57 (by omega)) (by omega)
  have D59 : oX1 z59 (x + 33) := by rw [ez59]; exact oL.st (L := lay1) (D55.ext e57 (by omega)) (by omega)
  refine ok_nq fun z63 ez63 => ?_
  refine ok_nq fun z65 ez65 => ?_
  rw [s59] at ez65
  have e63 : Ext (x + 43) z59 z63 := by rw [ez63]; exact Ext.na 10 2 (by omega)
  have s63 : zs z63 = x + 44 := by rw [ez63]; show zs z59 + 1 = _; omega
  have V63 : Rw z63 (x + 43) 10 2 := by rw [ez63, ← s59]; exact Rw.na
  have v63 : zR z63 (x + 43) = fun _ => none := by rw [ez63, ← s59]; exact if_pos rfl
  have s65 : zs z65 = x + 44 := by rw [ez65]; exact s63
  have X65 := (X59.ex e63 (by omega)).st (k := 10) (v := some (x + 43))
  rw [← ez65] at X65
  have V65 : Rw z65 (x + 43) 10 2 := by rw [ez65]; exact V63
  have v65 : zR z65 (x + 43) = fun _ => none := by rw [ez65]; exact (mst_row _ _ _ (by omega)).trans v63
  have U65 : Rw z65 (x + 42) 10 12 := by rw [ez65]; exact U59.ex e63 (by omega)
  have u65 : zR z65 (x + 42) = fun _ => none := by rw [ez65]; exact (mst_row _ _ _ (by omega)).trans ((e63 _ (by omega)).2.2.2.trans u59)
  have T65 : Rw z65 (x + 1) 6 600 := by rw [ez65]; exact T59.ex e63 (by omega)
  have R65 : Rw z65 (x + 2) 2 (zn z59 (x + 2)) := by rw [ez65]; exact R59.ex e63 (by omega)
  have A65 : oX3 z65 (x + 3) := by rw [ez65]; exact oL.st (L := lay3) (A59.ext e63 (by omega)) (by omega)
  have B65 : oX3 z65 (x + 13) := by rw [ez65]; exact oL.st (L := lay3) (B59.ext e63 (by omega)) (by omega)
  have C65 : oX0 z65 (x + 23) := by rw [ez65]; exact oL.st (L := lay0) (C59.ext e63 (by omega)) (by omega)
  have D65 : oX1 z65 (x + 33) := by rw [ez65]; exact oL.st (L := lay1) (D59.ext e63 (by omega)) (by omega)
  refine ok_nq fun z68 ez68 => ?_
  refine ok_nq fun I67 eI67 => ?_
  refine ok_nq fun z70 ez70 => ?_
  refine ok_nq fun z72 ez72 => ?_
  rw [s65] at ez70 eI67
  have e68 : Ext (x + 44) z65 z68 := by rw [ez68]; exact Ext.na 9 2 (by omega)
  have s68 : zs z68 = x + 45 := by rw [ez68]; show zs z65 + 1 = _; omega
  have W68 : Rw z68 (x + 44) 9 2 := by rw [ez68, ← s65]; exact Rw.na
  have X72 := ((X65.ex e68 (by omega)).st (k := 11) (v := some (x + 44))).st (k := 12) (v := none)
  rw [← ez70, ← ez72] at X72
  have s72 : zs z72 = x + 45 := by rw [ez72, ez70]; exact s68
  have W72 : Rw z72 (x + 44) 9 2 := by rw [ez72, ez70]; exact W68
  have V72 : Rw z72 (x + 43) 10 2 := by rw [ez72, ez70]; exact V65.ex e68 (by omega)
  have v72 : zR z72 (x + 43) = fun _ => none := by rw [ez72, ez70]; exact (mst_row _ _ _ (by omega)).trans ((mst_row _ _ _ (by omega)).trans ((e68 _ (by omega)).2.2.2.trans v65))
  have U72 : Rw z72 (x + 42) 10 12 := by rw [ez72, ez70]; exact U65.ex e68 (by omega)
  have u72 : zR z72 (x + 42) = fun _ => none := by rw [ez72, ez70]; exact (mst_row _ _ _ (by omega)).trans ((mst_row _ _ _ (by omega)).trans ((e68 _ (by omega)).2.2.2.trans u65))
  have T72 : Rw z72 (x + 1) 6 600 := by rw [ez72, ez70]; exact T65.ex e68 (by omega)
  have R72 : Rw z72 (x + 2) 2 (zn z59 (x + 2)) := by rw [ez72, ez70]; exact R65.ex e68 (by omega)
  have A72 : oX3 z72 (x + 3) := by rw [ez72, ez70]; exact oL.st (L := lay3) (oL.st (L := lay3) (A65.ext e68 (by omega)) (by omega)) (by omega)
  have B72 : oX3 z72 (x + 13) := by rw [ez72, ez70]; exact oL.st (L := lay3) (oL.st (L := lay3) (B65.ext e68 (by omega)) (by omega)) (by omega)
  have C72 : oX0 z72 (x + 23) := by rw [ez72, ez70]; exact oL.st (L := lay0) (oL.st (L := lay0) (C65.ext e68 (by omega)) (by omega)) (by omega)
  have D72 : oX1 z72 (x + 33) := by rw [ez72, ez70]; exact oL.st (L := lay1) (oL.st (L := lay1) (D65.ext e68 (by omega)) (by omega)) (by omega)
  have gI : ∀ b, b ≠ x → b < x + 33 → I67 b = r51.2 b := fun b h1 h2 => by rw [eI67, clr_ne _ _ (by omega), eI62, mst_row _ _ _ h1, eI61, mst_row _ _ _ h1]
  have gx : I67 x = pu (pu (r51.2 x) 8 0) 9 0 := by rw [eI67, clr_ne _ _ (by omega), eI62, ms_r, eI61, ms_r]
  have rx := X72.2
  refine ok_some ⟨⟨s72, ⟨X72.1, ⟨T72.1, T72.2.1, T72.2.2, ?_⟩, ⟨R72.1, R72.2.1, ?_⟩, ⟨A72, ?_⟩, ⟨B72, ?_⟩, ⟨C72, ?_⟩, ⟨D72, ?_⟩, ⟨U72.1, U72.2.1, U72.2.2, ?_⟩, ⟨V72.1, V72.2.1, V72.2.2, ?_⟩, W72.1, W72.2.1, W72.2.2, ?_⟩, fun s hs => ?_⟩, t21.fr (fun r hr => ?_), f41.fr (fun r hr => ?_), ?_, ?_, ?_, ?_⟩
  · show zR z72 x 0 = _
    rw [rx]; rfl
  · show zR z72 x 2 = _
    rw [rx]; rfl
  · show zR z72 x 3 = _
    rw [rx]; rfl
  · show zR z72 x 4 = _
    rw [rx]; rfl
  · show zR z72 x 5 = _
    rw [rx]; rfl
  · show zR z72 x 6 = _
    rw [rx]; rfl
  · show zR z72 x 7 = _
    rw [rx]; rfl
  · show zR z72 x 10 = _
    rw [rx]; rfl
  · show zR z72 x 11 = _
    rw [rx]; rfl
  · show slt x z72 s = none
    unfold slt
    rw [u72, v72, rx]
    split
    · rfl
    · split
      · rfl
      · rfl
  · show I67 (x + 3 + r) = _
    rw [gI _ (by omega) (by omega), g51 _ (by omega)]
  · show I67 (x + 23 + r) = _
    rw [gI _ (by omega) (by omega), h51 _ (by omega)]
  · show I67 x 1 = 0
    rw [gx, pu_n (by omega), pu_n (by omega), g51 _ (by omega)]
    exact m21
  · show I67 x 8 = 0
    rw [gx, pu_n (by omega), pu_s]
  · show I67 x 9 = 0
    rw [gx, pu_s]
  · show I67 (x + 44) = _
    rw [eI67]
    exact clr_self _ _ _
