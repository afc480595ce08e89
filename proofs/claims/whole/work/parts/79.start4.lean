/-! the class made -/
def Xs (x : Nat) (z : Sh) (l : Nat → Option Nat) : Prop := (x ∈ zL z ∧ zK z x = 4) ∧ zR z x = l
def Rw (z : Sh) (b c n : Nat) : Prop := b ∈ zL z ∧ zK z b = c ∧ zn z b = n
theorem Xs.ex {x b : Nat} {z z' : Sh} {l : Nat → Option Nat} (h : Xs x z l) (e : Ext b z z') (hb : x < b) : Xs x z' l := ⟨⟨(e x hb).1 h.1.1, (e x hb).2.1.trans h.1.2⟩, (e x hb).2.2.2.trans h.2⟩
theorem Xs.st {x k : Nat} {z : Sh} {l : Nat → Option Nat} {v : Option Nat} (h : Xs x z l) : Xs x (zSt z x k v) (pu l k v) := ⟨h.1, by
  show mst (zR z) x k v x = _
  rw [ms_r, h.2]⟩
theorem Xs.raw {x : Nat} {z : Sh} {l : Nat → Option Nat} (h : Xs x z l) (hs : x < zs z) : raw z x 4 := ⟨h.1.1, h.1.2, hs⟩
theorem Rw.ex {b c n d : Nat} {z z' : Sh} (h : Rw z b c n) (e : Ext d z z') (hb : b < d) : Rw z' b c n := ⟨(e b hb).1 h.1, (e b hb).2.1.trans h.2.1, (e b hb).2.2.1.trans h.2.2⟩
theorem Rw.na {z : Sh} {c n : Nat} : Rw (zNa z c n) (zs z) c n := ⟨List.mem_append_right _ (List.mem_singleton.mpr rfl), va_up_self _ _ _, va_up_self _ _ _⟩
theorem ob_raw {z : Sh} {a c : Nat} {L : List (Nat × Nat × Nat × Nat)} (h : oL z a c L) (hs : a < zs z) : raw z a c := ⟨h.1.1, h.1.2, hs⟩
theorem Ext.rr {a b k : Nat} {z z' : Sh} {v : Option Nat} (e : Ext a z z') (hb : b < a) : Ext a (zSt z b k v) (zSt z' b k v) := fun c hc => ⟨(e c hc).1, (e c hc).2.1, (e c hc).2.2.1, by
  show mst (zR z') b k v c = mst (zR z) b k v c
  funext j
  by_cases q : c = b
  · subst q
    rw [ms_r, ms_r, (e c hc).2.2.2]
  · rw [mst_row _ _ _ q, mst_row _ _ _ q, (e c hc).2.2.2]⟩
theorem z0_3 {I : MI} {a : Nat} (h : Zs 0 I a [1, 2, 3, 4, 5, 6, 7, 8, 9]) (f : I a 1 = 4 ∧ I a 3 = 4 ∧ I a 4 = 30 ∧ I a 6 = 0 ∧ I a 10 = 0) : CT I a (tB B0 (fun _ => 0)) := by
  obtain ⟨f1, f3, f4, f6, f10⟩ := f
  refine ⟨⟨f6, f10, f1, f3, f4⟩, fun i hi => absurd hi (Nat.not_lt_zero _), fun o ho => absurd ho (Nat.not_lt_zero _), fun c hc => ?_, fun o ho => ?_, fun o ho => ?_, fun e he => absurd he (Nat.not_lt_zero _)⟩
  · rw [(h 6 (by decide)).2]; rfl
  · rw [(h 7 (by decide)).2, show tot (tB B0 (fun _ => 0)) o = 0 from sm_z (fun i hi => rfl)]; rfl
  · rw [(h 8 (by decide)).2]; rfl
theorem in_2 {z : Sh} {I : MI} {a : Nat} : Ok (f_X2_init a z I) (fun r => r.1 = zSt (zNa z 6 0) a 0 (some (zs z)) ∧ ∀ b, b ≠ a → b ≠ zs z → r.2 b = I b) := by
  unfold f_X2_init
  refine ok_nm (ok_nm (ok_nm (ok_wq (fun I1 h1 => ok_wq (fun I2 h2 => ok_wq (fun I3 h3 => ok_wq (fun I4 h4 => ok_wq (fun I5 h5 => ok_wq (fun I6 h6 => ok_some ⟨rfl, fun b hb hz => ?_⟩)))))))))
  show I6 b = I b
  rw [h6, mst_row _ _ _ hb, h5, mst_row _ _ _ hb, h4, mst_row _ _ _ hb, h3, mst_row _ _ _ hb, h2, mst_row _ _ _ hb, h1, mst_row _ _ _ hb, clr_ne _ _ hz]
theorem Rw.st {z : Sh} {a k b c n : Nat} {v : Option Nat} (h : Rw z b c n) : Rw (zSt z a k v) b c n := h
def Pa (x : Nat) (l : Nat → Option Nat) (z : Sh) : Prop := Xs x z l ∧ Rw z (x + 1) 6 600 ∧ (x + 2) ∈ zL z ∧ zK z (x + 2) = 2
def Pb (x : Nat) (l : Nat → Option Nat) (z : Sh) : Prop := Pa x l z ∧ oX3 z (x + 4)
def Pc (x : Nat) (l : Nat → Option Nat) (z : Sh) : Prop := Pb x l z ∧ oX3 z (x + 14)
def Pd (x : Nat) (l : Nat → Option Nat) (z : Sh) : Prop := Pc x l z ∧ oX0 z (x + 24)
def Pe (x : Nat) (l : Nat → Option Nat) (z : Sh) : Prop := Pd x l z ∧ oX1 z (x + 34)
theorem Pa.ex {x b : Nat} {l : Nat → Option Nat} {z z' : Sh} (h : Pa x l z) (e : Ext b z z') (hb : x + 4 ≤ b) : Pa x l z' := ⟨h.1.ex e (by omega), h.2.1.ex e (by omega), (e _ (by omega)).1 h.2.2.1, (e _ (by omega)).2.1.trans h.2.2.2⟩
theorem Pb.ex {x b : Nat} {l : Nat → Option Nat} {z z' : Sh} (h : Pb x l z) (e : Ext b z z') (hb : x + 14 ≤ b) : Pb x l z' := ⟨h.1.ex e (by omega), h.2.ext e (by omega)⟩
theorem Pc.ex {x b : Nat} {l : Nat → Option Nat} {z z' : Sh} (h : Pc x l z) (e : Ext b z z') (hb : x + 24 ≤ b) : Pc x l z' := ⟨h.1.ex e (by omega), h.2.ext e (by omega)⟩
theorem Pd.ex {x b : Nat} {l : Nat → Option Nat} {z z' : Sh} (h : Pd x l z) (e : Ext b z z') (hb : x + 34 ≤ b) : Pd x l z' := ⟨h.1.ex e (by omega), h.2.ext e (by omega)⟩
theorem Pe.ex {x b : Nat} {l : Nat → Option Nat} {z z' : Sh} (h : Pe x l z) (e : Ext b z z') (hb : x + 43 ≤ b) : Pe x l z' := ⟨h.1.ex e (by omega), h.2.ext e (by omega)⟩
theorem Pa.st {x k : Nat} {l : Nat → Option Nat} {z : Sh} {v : Option Nat} (h : Pa x l z) : Pa x (pu l k v) (zSt z x k v) := ⟨h.1.st, h.2.1, h.2.2⟩
theorem Pb.st {x k : Nat} {l : Nat → Option Nat} {z : Sh} {v : Option Nat} (h : Pb x l z) : Pb x (pu l k v) (zSt z x k v) := ⟨h.1.st, oL.st (L := lay3) h.2 (by omega)⟩
theorem Pc.st {x k : Nat} {l : Nat → Option Nat} {z : Sh} {v : Option Nat} (h : Pc x l z) : Pc x (pu l k v) (zSt z x k v) := ⟨h.1.st, oL.st (L := lay3) h.2 (by omega)⟩
theorem Pd.st {x k : Nat} {l : Nat → Option Nat} {z : Sh} {v : Option Nat} (h : Pd x l z) : Pd x (pu l k v) (zSt z x k v) := ⟨h.1.st, oL.st (L := lay0) h.2 (by omega)⟩
theorem Pe.st {x k : Nat} {l : Nat → Option Nat} {z : Sh} {v : Option Nat} (h : Pe x l z) : Pe x (pu l k v) (zSt z x k v) := ⟨h.1.st, oL.st (L := lay1) h.2 (by omega)⟩
theorem stg {β : Type} {x c k h a : Nat} {z : Sh} {I : MI} {f : Nat → Sh → MI → Option (Sh × MI)} {G : Sh × MI → Sh → Option β} {Q : β → Prop} {S : Sh × MI → Prop} (hs : zs z = a) (hxa : x < a) (hx : x ∈ zL z ∧ zK z x = 4) (hf : ∀ z' I', Lay z' a c 1 [] → Ok (f a z' I') (fun r => (zs r.1 = a + h ∧ S r ∧ Ext a z' r.1) ∧ Lo a I' r.2)) (hS : ∀ r, S r → a ∈ zL r.1 ∧ zK r.1 a = c) (hh : 1 ≤ h) (K : ∀ r, zs r.1 = a + h → Ext a z r.1 → (∀ b, b < a → r.2 b = I b) → S r → Ok (G r (zSt r.1 x k (some a))) Q) : Ok ((nm (zNw z c)).bind fun z18 => (nm (clr 0 I (zs z))).bind fun I17 => (f (zs z) z18 I17).bind fun r21 => (gd (zs z18 ≤ zs r21.1)).bind fun _ => (gd (raw r21.1 x 4)).bind fun _ => (gd (raw r21.1 (zs z) c)).bind fun _ => (nm (zSt r21.1 x k (some (zs z)))).bind fun z25 => G r21 z25) Q := by
  subst hs
  refine ok_nq fun z18 e18 => ok_nq fun I17 eI => ?_
  have L : Lay z18 (zs z) c 1 [] := by rw [e18]; exact Lay.new c
  have e : Ext (zs z) z z18 := by rw [e18]; exact Ext.nw c (Nat.le_refl _)
  refine ok_bind (hf z18 I17 L) (fun r hr => ?_)
  obtain ⟨⟨h1, h2, h3⟩, h4⟩ := hr
  have E := e.tr h3
  refine ok_gd (by have := L.1; omega) (ok_gd ⟨(E x hxa).1 hx.1, (E x hxa).2.1.trans hx.2, by omega⟩ (ok_gd ⟨(hS r h2).1, (hS r h2).2, by omega⟩ (ok_nm (K r h1 E (fun b hb => by rw [h4 b hb, eI, clr_ne _ _ (by omega)]) h2))))
/-- the rows of floors, the last of the class -/
theorem in_4t {x : Nat} {z : Sh} {I : MI} {l : Nat → Option Nat} (s : zs z = x + 43) (P : Pe x l z) (hl : l 0 = some (x + 1) ∧ l 2 = some (x + 2) ∧ l 3 = some (x + 4) ∧ l 4 = some (x + 14) ∧ l 5 = some (x + 24) ∧ l 6 = some (x + 34)) : Ok ((nm (zNa z 10 12)).bind fun z57 => (nm (zSt z57 x 7 (some (zs z)))).bind fun z59 => (wf I x 8 0).bind fun I61 => (wf I61 x 9 0).bind fun I62 => (nm (zNa z59 10 2)).bind fun z63 => (nm (zSt z63 x 10 (some (zs z59)))).bind fun z65 => (nm (zNa z65 9 2)).bind fun z68 => (nm (clr 0 I62 (zs z65))).bind fun I67 => (nm (zSt z68 x 11 (some (zs z65)))).bind fun z70 => (nm (zSt z70 x 12 none)).bind fun z72 => some ((z72, I67))) (fun r => (zs r.1 = x + 46 ∧ oX4 r.1 x (x + 4) (x + 14) ∧ (∀ s, s < 15 → slt x r.1 s = none)) ∧ (∀ b, b ≠ x → b < x + 43 → r.2 b = I b) ∧ r.2 x = pu (pu (I x) 8 0) 9 0 ∧ r.2 (x + 45) = fun _ => 0) := by
  refine ok_nq fun z57 e57 => ok_nq fun z59 e59 => ok_wq fun I61 eI61 => ok_wq fun I62 eI62 => ?_
  rw [s] at e59
  have x57 : Ext (x + 43) z z57 := by rw [e57]; exact Ext.na 10 12 (by omega)
  have P59 : Pe x (pu l 7 (some (x + 43))) z59 := by rw [e59]; exact (P.ex x57 (Nat.le_refl _)).st
  have U59 : Rw z59 (x + 43) 10 12 ∧ zR z59 (x + 43) = fun _ => none := by
    rw [e59, e57, ← s]
    exact ⟨Rw.na.st, (mst_row _ _ _ (by omega)).trans (if_pos rfl)⟩
  have s59 : zs z59 = x + 44 := by rw [e59, e57]; show zs z + 1 = _; omega
  clear e59 e57 x57 P
  refine ok_nq fun z63 e63 => ok_nq fun z65 e65 => ?_
  rw [s59] at e65
  have x63 : Ext (x + 44) z59 z63 := by rw [e63]; exact Ext.na 10 2 (by omega)
  have P65 : Pe x (pu (pu l 7 (some (x + 43))) 10 (some (x + 44))) z65 := by rw [e65]; exact (P59.ex x63 (by omega)).st
  have U65 : Rw z65 (x + 43) 10 12 ∧ zR z65 (x + 43) = fun _ => none := by
    rw [e65]
    exact ⟨(U59.1.ex x63 (by omega)).st, (mst_row _ _ _ (by omega)).trans ((x63 _ (by omega)).2.2.2.trans U59.2)⟩
  have V65 : Rw z65 (x + 44) 10 2 ∧ zR z65 (x + 44) = fun _ => none := by
    rw [e65, e63, ← s59]
    exact ⟨Rw.na.st, (mst_row _ _ _ (by omega)).trans (if_pos rfl)⟩
  have s65 : zs z65 = x + 45 := by rw [e65, e63]; show zs z59 + 1 = _; omega
  clear e65 e63 x63 P59 U59
  refine ok_nq fun z68 e68 => ok_nq fun I67 eI67 => ok_nq fun z70 e70 => ok_nq fun z72 e72 => ?_
  rw [s65] at e70 eI67
  have x68 : Ext (x + 45) z65 z68 := by rw [e68]; exact Ext.na 9 2 (by omega)
  have P70 : Pe x (pu (pu (pu l 7 (some (x + 43))) 10 (some (x + 44))) 11 (some (x + 45))) z70 := by rw [e70]; exact (P65.ex x68 (by omega)).st
  have U70 : Rw z70 (x + 43) 10 12 ∧ zR z70 (x + 43) = fun _ => none := by
    rw [e70]
    exact ⟨(U65.1.ex x68 (by omega)).st, (mst_row _ _ _ (by omega)).trans ((x68 _ (by omega)).2.2.2.trans U65.2)⟩
  have V70 : Rw z70 (x + 44) 10 2 ∧ zR z70 (x + 44) = fun _ => none := by
    rw [e70]
    exact ⟨(V65.1.ex x68 (by omega)).st, (mst_row _ _ _ (by omega)).trans ((x68 _ (by omega)).2.2.2.trans V65.2)⟩
  have W70 : Rw z70 (x + 45) 9 2 := by
    rw [e70, e68, ← s65]
    exact Rw.na.st
  have s70 : zs z70 = x + 46 := by rw [e70, e68]; show zs z65 + 1 = _; omega
  clear e70 e68 x68 P65 U65 V65
  have P72 : Pe x (pu (pu (pu (pu l 7 (some (x + 43))) 10 (some (x + 44))) 11 (some (x + 45))) 12 none) z72 := by rw [e72]; exact P70.st
  have s72 : zs z72 = x + 46 := by rw [e72]; exact s70
  have U72 : Rw z72 (x + 43) 10 12 ∧ zR z72 (x + 43) = fun _ => none := by rw [e72]; exact ⟨U70.1.st, (mst_row _ _ _ (by omega)).trans U70.2⟩
  have V72 : Rw z72 (x + 44) 10 2 ∧ zR z72 (x + 44) = fun _ => none := by rw [e72]; exact ⟨V70.1.st, (mst_row _ _ _ (by omega)).trans V70.2⟩
  have W72 : Rw z72 (x + 45) 9 2 := by rw [e72]; exact W70.st
  clear e72 P70 U70 V70 W70
  obtain ⟨⟨⟨⟨⟨⟨hX, hR⟩, hT, hD⟩, hA⟩, hB⟩, hC⟩, hN⟩ := P72
  obtain ⟨l0, l2, l3, l4, l5, l6⟩ := hl
  have rx : ∀ j, zR z72 x j = pu (pu (pu (pu l 7 (some (x + 43))) 10 (some (x + 44))) 11 (some (x + 45))) 12 none j := fun j => by rw [hR]
  refine ok_some ⟨⟨s72, ⟨hX, ⟨hT.1, hT.2.1, hT.2.2, (rx 0).trans l0⟩, ⟨hD.1, hD.2, (rx 2).trans l2⟩, ⟨hA, (rx 3).trans l3⟩, ⟨hB, (rx 4).trans l4⟩, ⟨hC, (rx 5).trans l5⟩, ⟨hN, (rx 6).trans l6⟩, ⟨U72.1.1, U72.1.2.1, U72.1.2.2, rx 7⟩, ⟨V72.1.1, V72.1.2.1, V72.1.2.2, rx 10⟩, W72.1, W72.2.1, W72.2.2, rx 11⟩, fun s hs => ?_⟩, fun b h1 h2 => ?_, ?_, ?_⟩
  · show slt x z72 s = none
    unfold slt
    rw [U72.2, V72.2, rx 12]
    split
    · rfl
    · split
      · rfl
      · rfl
  · show I67 b = I b
    rw [eI67, clr_ne _ _ (by omega), eI62, mst_row _ _ _ h1, eI61, mst_row _ _ _ h1]
  · show I67 x = _
    rw [eI67, clr_ne _ _ (by omega), eI62, ms_r, eI61, ms_r]
  · show I67 (x + 45) = _
    rw [eI67]
    exact clr_self _ _ _
