/-! constructors -/
theorem ok_nq {α β : Type} {x : α} {g : α → Option β} {Q : β → Prop} (K : ∀ y, y = x → Ok (g y) Q) : Ok ((nm x).bind g) Q := ok_bs rfl (K x rfl)
theorem ok_wq {α β : Type} {f : Nat → Nat → α} {a k : Nat} {v : α} {g : (Nat → Nat → α) → Option β} {Q : β → Prop} (K : ∀ y, y = mst f a k v → Ok (g y) Q) : Ok ((wf f a k v).bind g) Q := ok_bs rfl (K _ rfl)
/-- rows that hold nothing -/
def Zs {α : Type} (d : α) (I : Nat → Nat → α) (a : Nat) (l : List Nat) : Prop := ∀ k ∈ l, 1 ≤ k ∧ I (a + k) = fun _ => d
theorem Zs.nil {α : Type} {d : α} {I : Nat → Nat → α} {a : Nat} : Zs d I a [] := fun _ h => nomatch h
theorem Zs.add {α : Type} {d : α} {I : Nat → Nat → α} {a r : Nat} {l : List Nat} (h : Zs d I a l) (hr : 1 ≤ r) : Zs d (clr d I (a + r)) a (l ++ [r]) := by
  intro k hk
  by_cases e : k = r
  · subst e
    exact ⟨hr, clr_self _ _ _⟩
  · rcases List.mem_append.mp hk with hk | hk
    · refine ⟨(h k hk).1, ?_⟩
      rw [clr_ne _ _ (by omega)]
      exact (h k hk).2
    · exact absurd (List.mem_singleton.mp hk) e
theorem Zs.wf {α : Type} {d : α} {I : Nat → Nat → α} {a f : Nat} {v : α} {l : List Nat} (h : Zs d I a l) : Zs d (mst I a f v) a l := by
  intro k hk
  have := h k hk
  exact ⟨this.1, by rw [mst_row _ _ _ (by omega)]; exact this.2⟩
def Lo {α : Type} (a : Nat) (I I' : Nat → Nat → α) : Prop := ∀ b, b < a → I' b = I b
theorem Lo.rf {α : Type} {a : Nat} {I : Nat → Nat → α} : Lo a I I := fun _ _ => rfl
theorem Lo.clr {α : Type} {d : α} {a r : Nat} {I I' : Nat → Nat → α} (h : Lo a I I') : Lo a I (clr d I' (a + r)) := fun b hb => by rw [clr_ne _ _ (by omega)]; exact h b hb
theorem Lo.wf {α : Type} {a k : Nat} {v : α} {I I' : Nat → Nat → α} (h : Lo a I I') : Lo a I (mst I' a k v) := fun b hb => by rw [mst_row _ _ _ (by omega)]; exact h b hb
theorem Ext.al {a b k kd n : Nat} {z z' : Sh} {v : Option Nat} (h : Ext a z z') (h1 : a ≤ zs z') (h2 : a ≤ b) : Ext a z (zSt (zNa z' kd n) b k v) := h.tr ((Ext.na kd n h1).tr (Ext.st h2))
set_option maxHeartbeats 4000000 in
theorem in_1 {z : Sh} {I : MI} {a : Nat} (hz : Lay z a 1 1 []) : Ok (f_X1_init a z I) (fun r => (zs r.1 = a + 9 ∧ oX1 r.1 a ∧ Ext a z r.1) ∧ Lo a I r.2 ∧ Zs 0 r.2 a [1, 2, 3, 4, 5, 6, 7, 8] ∧ r.2 a 0 = 0 ∧ r.2 a 1 = 0) := by
  unfold f_X1_init
  have xz : Ext a z z := Ext.rf
  have sz : zs z = a + 1 := hz.1
  have qI : Zs 0 I a [] := Zs.nil
  have lI : Lo a I I := Lo.rf
  refine ok_wq fun I1 eI1 => ?_
  have qI1 : Zs 0 I1 a [] := by rw [eI1]; exact qI.wf
  have lI1 : Lo a I I1 := by rw [eI1]; exact lI.wf
  have fI1 : I1 a = pu (I a) 0 0 := by rw [eI1]; exact ms_r
  refine ok_wq fun I2 eI2 => ?_
  have qI2 : Zs 0 I2 a [] := by rw [eI2]; exact qI1.wf
  have lI2 : Lo a I I2 := by rw [eI2]; exact lI1.wf
  have fI2 : I2 a = pu (I1 a) 1 0 := by rw [eI2]; exact ms_r
  refine ok_nq fun z4 ez4 => ?_
  refine ok_nq fun I3 eI3 => ?_
  rw [sz] at eI3
  have qI3 : Zs 0 I3 a [1] := by rw [eI3]; exact qI2.add (by omega)
  have lI3 : Lo a I I3 := by rw [eI3]; exact lI2.clr
  have fI3 : I3 a = I2 a := by rw [eI3]; exact clr_ne _ _ (by omega)
  refine ok_nq fun z6 ez6 => ?_
  rw [ez4] at ez6
  have hz6 : Lay z6 a 1 2 [(2, 1, 7, 10)] := by rw [ez6]; exact hz.add 2 7 10 (by decide)
  have xz6 : Ext a z z6 := by rw [ez6]; exact xz.al (by rw [sz]; omega) (Nat.le_refl _)
  have sz6 : zs z6 = a + 2 := hz6.1
  refine ok_nq fun z9 ez9 => ?_
  refine ok_nq fun I8 eI8 => ?_
  rw [sz6] at eI8
  have qI8 : Zs 0 I8 a [1, 2] := by rw [eI8]; exact qI3.add (by omega)
  have lI8 : Lo a I I8 := by rw [eI8]; exact lI3.clr
  have fI8 : I8 a = I3 a := by rw [eI8]; exact clr_ne _ _ (by omega)
  refine ok_nq fun z11 ez11 => ?_
  rw [ez9] at ez11
  have hz11 : Lay z11 a 1 3 [(2, 1, 7, 10), (3, 2, 7, 10)] := by rw [ez11]; exact hz6.add 3 7 10 (by decide)
  have xz11 : Ext a z z11 := by rw [ez11]; exact xz6.al (by rw [sz6]; omega) (Nat.le_refl _)
  have sz11 : zs z11 = a + 3 := hz11.1
  refine ok_nq fun z14 ez14 => ?_
  refine ok_nq fun I13 eI13 => ?_
  rw [sz11] at eI13
  have qI13 : Zs 0 I13 a [1, 2, 3] := by rw [eI13]; exact qI8.add (by omega)
  have lI13 : Lo a I I13 := by rw [eI13]; exact lI8.clr
  have fI13 : I13 a = I8 a := by rw [eI13]; exact clr_ne _ _ (by omega)
  refine ok_nq fun z16 ez16 => ?_
  rw [ez14] at ez16
  have hz16 : Lay z16 a 1 4 [(2, 1, 7, 10), (3, 2, 7, 10), (4, 3, 7, 160)] := by rw [ez16]; exact hz11.add 4 7 160 (by decide)
  have xz16 : Ext a z z16 := by rw [ez16]; exact xz11.al (by rw [sz11]; omega) (Nat.le_refl _)
  have sz16 : zs z16 = a + 4 := hz16.1
  refine ok_nq fun z19 ez19 => ?_
  refine ok_nq fun I18 eI18 => ?_
  rw [sz16] at eI18
  have qI18 : Zs 0 I18 a [1, 2, 3, 4] := by rw [eI18]; exact qI13.add (by omega)
  have lI18 : Lo a I I18 := by rw [eI18]; exact lI13.clr
  have fI18 : I18 a = I13 a := by rw [eI18]; exact clr_ne _ _ (by omega)
  refine ok_nq fun z21 ez21 => ?_
  rw [ez19] at ez21
  have hz21 : Lay z21 a 1 5 [(2, 1, 7, 10), (3, 2, 7, 10), (4, 3, 7, 160), (5, 4, 7, 6)] := by rw [ez21]; exact hz16.add 5 7 6 (by decide)
  have xz21 : Ext a z z21 := by rw [ez21]; exact xz16.al (by rw [sz16]; omega) (Nat.le_refl _)
  have sz21 : zs z21 = a + 5 := hz21.1
  refine ok_nq fun z24 ez24 => ?_
  refine ok_nq fun I23 eI23 => ?_
  rw [sz21] at eI23
  have qI23 : Zs 0 I23 a [1, 2, 3, 4, 5] := by rw [eI23]; exact qI18.add (by omega)
  have lI23 : Lo a I I23 := by rw [eI23]; exact lI18.clr
  have fI23 : I23 a = I18 a := by rw [eI23]; exact clr_ne _ _ (by omega)
  refine ok_nq fun z26 ez26 => ?_
  rw [ez24] at ez26
  have hz26 : Lay z26 a 1 6 [(2, 1, 7, 10), (3, 2, 7, 10), (4, 3, 7, 160), (5, 4, 7, 6), (6, 5, 7, 64)] := by rw [ez26]; exact hz21.add 6 7 64 (by decide)
  have xz26 : Ext a z z26 := by rw [ez26]; exact xz21.al (by rw [sz21]; omega) (Nat.le_refl _)
  have sz26 : zs z26 = a + 6 := hz26.1
  refine ok_nq fun z29 ez29 => ?_
  refine ok_nq fun I28 eI28 => ?_
  rw [sz26] at eI28
  have qI28 : Zs 0 I28 a [1, 2, 3, 4, 5, 6] := by rw [eI28]; exact qI23.add (by omega)
  have lI28 : Lo a I I28 := by rw [eI28]; exact lI23.clr
  have fI28 : I28 a = I23 a := by rw [eI28]; exact clr_ne _ _ (by omega)
  refine ok_nq fun z31 ez31 => ?_
  rw [ez29] at ez31
  have hz31 : Lay z31 a 1 7 [(2, 1, 7, 10), (3, 2, 7, 10), (4, 3, 7, 160), (5, 4, 7, 6), (6, 5, 7, 64), (7, 6, 7, 10)] := by rw [ez31]; exact hz26.add 7 7 10 (by decide)
  have xz31 : Ext a z z31 := by rw [ez31]; exact xz26.al (by rw [sz26]; omega) (Nat.le_refl _)
  have sz31 : zs z31 = a + 7 := hz31.1
  refine ok_nq fun z34 ez34 => ?_
  refine ok_nq fun I33 eI33 => ?_
  rw [sz31] at eI33
  have qI33 : Zs 0 I33 a [1, 2, 3, 4, 5, 6, 7] := by rw [eI33]; exact qI28.add (by omega)
  have lI33 : Lo a I I33 := by rw [eI33]; exact lI28.clr
  have fI33 : I33 a = I28 a := by rw [eI33]; exact clr_ne _ _ (by omega)
  refine ok_nq fun z36 ez36 => ?_
  rw [ez34] at ez36
  have hz36 : Lay z36 a 1 8 [(2, 1, 7, 10), (3, 2, 7, 10), (4, 3, 7, 160), (5, 4, 7, 6), (6, 5, 7, 64), (7, 6, 7, 10), (8, 7, 7, 16)] := by rw [ez36]; exact hz31.add 8 7 16 (by decide)
  have xz36 : Ext a z z36 := by rw [ez36]; exact xz31.al (by rw [sz31]; omega) (Nat.le_refl _)
  have sz36 : zs z36 = a + 8 := hz36.1
  refine ok_nq fun z39 ez39 => ?_
  refine ok_nq fun I38 eI38 => ?_
  rw [sz36] at eI38
  have qI38 : Zs 0 I38 a [1, 2, 3, 4, 5, 6, 7, 8] := by rw [eI38]; exact qI33.add (by omega)
  have lI38 : Lo a I I38 := by rw [eI38]; exact lI33.clr
  have fI38 : I38 a = I33 a := by rw [eI38]; exact clr_ne _ _ (by omega)
  refine ok_nq fun z41 ez41 => ?_
  rw [ez39] at ez41
  have hz41 : Lay z41 a 1 9 [(2, 1, 7, 10), (3, 2, 7, 10), (4, 3, 7, 160), (5, 4, 7, 6), (6, 5, 7, 64), (7, 6, 7, 10), (8, 7, 7, 16), (9, 8, 9, 16)] := by rw [ez41]; exact hz36.add 9 9 16 (by decide)
  have xz41 : Ext a z z41 := by rw [ez41]; exact xz36.al (by rw [sz36]; omega) (Nat.le_refl _)
  have sz41 : zs z41 = a + 9 := hz41.1
  refine ok_some ⟨⟨sz41, hz41.2.2.1, xz41⟩, lI38, qI38, ?_, ?_⟩
  all_goals (show I38 a _ = _; rw [fI38, fI33, fI28, fI23, fI18, fI13, fI8, fI3, fI2, fI1]; rfl)
set_option maxHeartbeats 4000000 in
theorem in_3 {z : Sh} {I : MI} {a : Nat} (hz : Lay z a 3 1 []) : Ok (f_X3_init a z I) (fun r => (zs r.1 = a + 10 ∧ oX3 r.1 a ∧ Ext a z r.1) ∧ Lo a I r.2 ∧ Zs 0 r.2 a [1, 2, 3, 4, 5, 6, 7, 8, 9] ∧ r.2 a 0 = 0 ∧ r.2 a 1 = 4 ∧ r.2 a 2 = 0 ∧ r.2 a 3 = 4 ∧ r.2 a 4 = 30 ∧ r.2 a 5 = 0 ∧ r.2 a 6 = 0 ∧ r.2 a 10 = 0) := by
  unfold f_X3_init
  have xz : Ext a z z := Ext.rf
  have sz : zs z = a + 1 := hz.1
  have qI : Zs 0 I a [] := Zs.nil
  have lI : Lo a I I := Lo.rf
  refine ok_wq fun I1 eI1 => ?_
  have qI1 : Zs 0 I1 a [] := by rw [eI1]; exact qI.wf
  have lI1 : Lo a I I1 := by rw [eI1]; exact lI.wf
  have fI1 : I1 a = pu (I a) 0 0 := by rw [eI1]; exact ms_r
  refine ok_wq fun I2 eI2 => ?_
  have qI2 : Zs 0 I2 a [] := by rw [eI2]; exact qI1.wf
  have lI2 : Lo a I I2 := by rw [eI2]; exact lI1.wf
  have fI2 : I2 a = pu (I1 a) 1 4 := by rw [eI2]; exact ms_r
  refine ok_wq fun I3 eI3 => ?_
  have qI3 : Zs 0 I3 a [] := by rw [eI3]; exact qI2.wf
  have lI3 : Lo a I I3 := by rw [eI3]; exact lI2.wf
  have fI3 : I3 a = pu (I2 a) 2 0 := by rw [eI3]; exact ms_r
  refine ok_wq fun I4 eI4 => ?_
  have qI4 : Zs 0 I4 a [] := by rw [eI4]; exact qI3.wf
  have lI4 : Lo a I I4 := by rw [eI4]; exact lI3.wf
  have fI4 : I4 a = pu (I3 a) 3 4 := by rw [eI4]; exact ms_r
  refine ok_wq fun I5 eI5 => ?_
  have qI5 : Zs 0 I5 a [] := by rw [eI5]; exact qI4.wf
  have lI5 : Lo a I I5 := by rw [eI5]; exact lI4.wf
  have fI5 : I5 a = pu (I4 a) 4 30 := by rw [eI5]; exact ms_r
  refine ok_wq fun I6 eI6 => ?_
  have qI6 : Zs 0 I6 a [] := by rw [eI6]; exact qI5.wf
  have lI6 : Lo a I I6 := by rw [eI6]; exact lI5.wf
  have fI6 : I6 a = pu (I5 a) 5 0 := by rw [eI6]; exact ms_r
  refine ok_wq fun I7 eI7 => ?_
  have qI7 : Zs 0 I7 a [] := by rw [eI7]; exact qI6.wf
  have lI7 : Lo a I I7 := by rw [eI7]; exact lI6.wf
  have fI7 : I7 a = pu (I6 a) 6 0 := by rw [eI7]; exact ms_r
  refine ok_nq fun z9 ez9 => ?_
  refine ok_nq fun I8 eI8 => ?_
  rw [sz] at eI8
  have qI8 : Zs 0 I8 a [1] := by rw [eI8]; exact qI7.add (by omega)
  have lI8 : Lo a I I8 := by rw [eI8]; exact lI7.clr
  have fI8 : I8 a = I7 a := by rw [eI8]; exact clr_ne _ _ (by omega)
  refine ok_nq fun z11 ez11 => ?_
  rw [ez9] at ez11
  have hz11 : Lay z11 a 3 2 [(7, 1, 7, 10)] := by rw [ez11]; exact hz.add 7 7 10 (by decide)
  have xz11 : Ext a z z11 := by rw [ez11]; exact xz.al (by rw [sz]; omega) (Nat.le_refl _)
  have sz11 : zs z11 = a + 2 := hz11.1
  refine ok_nq fun z14 ez14 => ?_
  refine ok_nq fun I13 eI13 => ?_
  rw [sz11] at eI13
  have qI13 : Zs 0 I13 a [1, 2] := by rw [eI13]; exact qI8.add (by omega)
  have lI13 : Lo a I I13 := by rw [eI13]; exact lI8.clr
  have fI13 : I13 a = I8 a := by rw [eI13]; exact clr_ne _ _ (by omega)
  refine ok_nq fun z16 ez16 => ?_
  rw [ez14] at ez16
  have hz16 : Lay z16 a 3 3 [(7, 1, 7, 10), (8, 2, 7, 10)] := by rw [ez16]; exact hz11.add 8 7 10 (by decide)
  have xz16 : Ext a z z16 := by rw [ez16]; exact xz11.al (by rw [sz11]; omega) (Nat.le_refl _)
  have sz16 : zs z16 = a + 3 := hz16.1
  refine ok_nq fun z19 ez19 => ?_
  refine ok_nq fun I18 eI18 => ?_
  rw [sz16] at eI18
  have qI18 : Zs 0 I18 a [1, 2, 3] := by rw [eI18]; exact qI13.add (by omega)
  have lI18 : Lo a I I18 := by rw [eI18]; exact lI13.clr
  have fI18 : I18 a = I13 a := by rw [eI18]; exact clr_ne _ _ (by omega)
  refine ok_nq fun z21 ez21 => ?_
  rw [ez19] at ez21
  have hz21 : Lay z21 a 3 4 [(7, 1, 7, 10), (8, 2, 7, 10), (9, 3, 7, 10)] := by rw [ez21]; exact hz16.add 9 7 10 (by decide)
  have xz21 : Ext a z z21 := by rw [ez21]; exact xz16.al (by rw [sz16]; omega) (Nat.le_refl _)
  have sz21 : zs z21 = a + 4 := hz21.1
  refine ok_wq fun I23 eI23 => ?_
  have qI23 : Zs 0 I23 a [1, 2, 3] := by rw [eI23]; exact qI18.wf
  have lI23 : Lo a I I23 := by rw [eI23]; exact lI18.wf
  have fI23 : I23 a = pu (I18 a) 10 0 := by rw [eI23]; exact ms_r
  refine ok_nq fun z25 ez25 => ?_
  refine ok_nq fun I24 eI24 => ?_
  rw [sz21] at eI24
  have qI24 : Zs 0 I24 a [1, 2, 3, 4] := by rw [eI24]; exact qI23.add (by omega)
  have lI24 : Lo a I I24 := by rw [eI24]; exact lI23.clr
  have fI24 : I24 a = I23 a := by rw [eI24]; exact clr_ne _ _ (by omega)
  refine ok_nq fun z27 ez27 => ?_
  rw [ez25] at ez27
  have hz27 : Lay z27 a 3 5 [(7, 1, 7, 10), (8, 2, 7, 10), (9, 3, 7, 10), (11, 4, 7, 16)] := by rw [ez27]; exact hz21.add 11 7 16 (by decide)
  have xz27 : Ext a z z27 := by rw [ez27]; exact xz21.al (by rw [sz21]; omega) (Nat.le_refl _)
  have sz27 : zs z27 = a + 5 := hz27.1
  refine ok_nq fun z30 ez30 => ?_
  refine ok_nq fun I29 eI29 => ?_
  rw [sz27] at eI29
  have qI29 : Zs 0 I29 a [1, 2, 3, 4, 5] := by rw [eI29]; exact qI24.add (by omega)
  have lI29 : Lo a I I29 := by rw [eI29]; exact lI24.clr
  have fI29 : I29 a = I24 a := by rw [eI29]; exact clr_ne _ _ (by omega)
  refine ok_nq fun z32 ez32 => ?_
  rw [ez30] at ez32
  have hz32 : Lay z32 a 3 6 [(7, 1, 7, 10), (8, 2, 7, 10), (9, 3, 7, 10), (11, 4, 7, 16), (12, 5, 7, 16)] := by rw [ez32]; exact hz27.add 12 7 16 (by decide)
  have xz32 : Ext a z z32 := by rw [ez32]; exact xz27.al (by rw [sz27]; omega) (Nat.le_refl _)
  have sz32 : zs z32 = a + 6 := hz32.1
  refine ok_nq fun z35 ez35 => ?_
  refine ok_nq fun I34 eI34 => ?_
  rw [sz32] at eI34
  have qI34 : Zs 0 I34 a [1, 2, 3, 4, 5, 6] := by rw [eI34]; exact qI29.add (by omega)
  have lI34 : Lo a I I34 := by rw [eI34]; exact lI29.clr
  have fI34 : I34 a = I29 a := by rw [eI34]; exact clr_ne _ _ (by omega)
  refine ok_nq fun z37 ez37 => ?_
  rw [ez35] at ez37
  have hz37 : Lay z37 a 3 7 [(7, 1, 7, 10), (8, 2, 7, 10), (9, 3, 7, 10), (11, 4, 7, 16), (12, 5, 7, 16), (13, 6, 7, 160)] := by rw [ez37]; exact hz32.add 13 7 160 (by decide)
  have xz37 : Ext a z z37 := by rw [ez37]; exact xz32.al (by rw [sz32]; omega) (Nat.le_refl _)
  have sz37 : zs z37 = a + 7 := hz37.1
  refine ok_nq fun z40 ez40 => ?_
  refine ok_nq fun I39 eI39 => ?_
  rw [sz37] at eI39
  have qI39 : Zs 0 I39 a [1, 2, 3, 4, 5, 6, 7] := by rw [eI39]; exact qI34.add (by omega)
  have lI39 : Lo a I I39 := by rw [eI39]; exact lI34.clr
  have fI39 : I39 a = I34 a := by rw [eI39]; exact clr_ne _ _ (by omega)
  refine ok_nq fun z42 ez42 => ?_
  rw [ez40] at ez42
  have hz42 : Lay z42 a 3 8 [(7, 1, 7, 10), (8, 2, 7, 10), (9, 3, 7, 10), (11, 4, 7, 16), (12, 5, 7, 16), (13, 6, 7, 160), (14, 7, 7, 16)] := by rw [ez42]; exact hz37.add 14 7 16 (by decide)
  have xz42 : Ext a z z42 := by rw [ez42]; exact xz37.al (by rw [sz37]; omega) (Nat.le_refl _)
  have sz42 : zs z42 = a + 8 := hz42.1
  refine ok_nq fun z45 ez45 => ?_
  refine ok_nq fun I44 eI44 => ?_
  rw [sz42] at eI44
  have qI44 : Zs 0 I44 a [1, 2, 3, 4, 5, 6, 7, 8] := by rw [eI44]; exact qI39.add (by omega)
  have lI44 : Lo a I I44 := by rw [eI44]; exact lI39.clr
  have fI44 : I44 a = I39 a := by rw [eI44]; exact clr_ne _ _ (by omega)
  refine ok_nq fun z47 ez47 => ?_
  rw [ez45] at ez47
  have hz47 : Lay z47 a 3 9 [(7, 1, 7, 10), (8, 2, 7, 10), (9, 3, 7, 10), (11, 4, 7, 16), (12, 5, 7, 16), (13, 6, 7, 160), (14, 7, 7, 16), (15, 8, 7, 16)] := by rw [ez47]; exact hz42.add 15 7 16 (by decide)
  have xz47 : Ext a z z47 := by rw [ez47]; exact xz42.al (by rw [sz42]; omega) (Nat.le_refl _)
  have sz47 : zs z47 = a + 9 := hz47.1
  refine ok_nq fun z50 ez50 => ?_
  refine ok_nq fun I49 eI49 => ?_
  rw [sz47] at eI49
  have qI49 : Zs 0 I49 a [1, 2, 3, 4, 5, 6, 7, 8, 9] := by rw [eI49]; exact qI44.add (by omega)
  have lI49 : Lo a I I49 := by rw [eI49]; exact lI44.clr
  have fI49 : I49 a = I44 a := by rw [eI49]; exact clr_ne _ _ (by omega)
  refine ok_nq fun z52 ez52 => ?_
  rw [ez50] at ez52
  have hz52 : Lay z52 a 3 10 [(7, 1, 7, 10), (8, 2, 7, 10), (9, 3, 7, 10), (11, 4, 7, 16), (12, 5, 7, 16), (13, 6, 7, 160), (14, 7, 7, 16), (15, 8, 7, 16), (16, 9, 7, 16)] := by rw [ez52]; exact hz47.add 16 7 16 (by decide)
  have xz52 : Ext a z z52 := by rw [ez52]; exact xz47.al (by rw [sz47]; omega) (Nat.le_refl _)
  have sz52 : zs z52 = a + 10 := hz52.1
  refine ok_some ⟨⟨sz52, hz52.2.2.1, xz52⟩, lI49, qI49, ?_, ?_, ?_, ?_, ?_, ?_, ?_, ?_⟩
  all_goals (show I49 a _ = _; rw [fI49, fI44, fI39, fI34, fI29, fI24, fI23, fI18, fI13, fI8, fI7, fI6, fI5, fI4, fI3, fI2, fI1]; rfl)
def fl0 : Fl := ((fun _ => 0, fun _ => 0, fun _ => 0, fun _ => 0, fun _ => 0, fun _ => 0), 0, [], [], [])
set_option maxHeartbeats 4000000 in
theorem in_0 {z : Sh} {I : MI} {a : Nat} (hz : Lay z a 0 1 []) : Ok (f_X0_init a z I) (fun r => (zs r.1 = a + 10 ∧ oX0 r.1 a ∧ Ext a z r.1) ∧ Lo a I r.2 ∧ CF 0 r.2 a fl0) := by
  unfold f_X0_init
  have xz : Ext a z z := Ext.rf
  have sz : zs z = a + 1 := hz.1
  have qI : Zs 0 I a [] := Zs.nil
  have lI : Lo a I I := Lo.rf
  refine ok_nq fun z2 ez2 => ?_
  refine ok_nq fun I1 eI1 => ?_
  rw [sz] at eI1
  have qI1 : Zs 0 I1 a [1] := by rw [eI1]; exact qI.add (by omega)
  have lI1 : Lo a I I1 := by rw [eI1]; exact lI.clr
  have fI1 : I1 a = I a := by rw [eI1]; exact clr_ne _ _ (by omega)
  refine ok_nq fun z4 ez4 => ?_
  rw [ez2] at ez4
  have hz4 : Lay z4 a 0 2 [(0, 1, 7, 10)] := by rw [ez4]; exact hz.add 0 7 10 (by decide)
  have xz4 : Ext a z z4 := by rw [ez4]; exact xz.al (by rw [sz]; omega) (Nat.le_refl _)
  have sz4 : zs z4 = a + 2 := hz4.1
  refine ok_nq fun z7 ez7 => ?_
  refine ok_nq fun I6 eI6 => ?_
  rw [sz4] at eI6
  have qI6 : Zs 0 I6 a [1, 2] := by rw [eI6]; exact qI1.add (by omega)
  have lI6 : Lo a I I6 := by rw [eI6]; exact lI1.clr
  have fI6 : I6 a = I1 a := by rw [eI6]; exact clr_ne _ _ (by omega)
  refine ok_nq fun z9 ez9 => ?_
  rw [ez7] at ez9
  have hz9 : Lay z9 a 0 3 [(0, 1, 7, 10), (1, 2, 7, 16)] := by rw [ez9]; exact hz4.add 1 7 16 (by decide)
  have xz9 : Ext a z z9 := by rw [ez9]; exact xz4.al (by rw [sz4]; omega) (Nat.le_refl _)
  have sz9 : zs z9 = a + 3 := hz9.1
  refine ok_nq fun z12 ez12 => ?_
  refine ok_nq fun I11 eI11 => ?_
  rw [sz9] at eI11
  have qI11 : Zs 0 I11 a [1, 2, 3] := by rw [eI11]; exact qI6.add (by omega)
  have lI11 : Lo a I I11 := by rw [eI11]; exact lI6.clr
  have fI11 : I11 a = I6 a := by rw [eI11]; exact clr_ne _ _ (by omega)
  refine ok_nq fun z14 ez14 => ?_
  rw [ez12] at ez14
  have hz14 : Lay z14 a 0 4 [(0, 1, 7, 10), (1, 2, 7, 16), (2, 3, 7, 16)] := by rw [ez14]; exact hz9.add 2 7 16 (by decide)
  have xz14 : Ext a z z14 := by rw [ez14]; exact xz9.al (by rw [sz9]; omega) (Nat.le_refl _)
  have sz14 : zs z14 = a + 4 := hz14.1
  refine ok_nq fun z17 ez17 => ?_
  refine ok_nq fun I16 eI16 => ?_
  rw [sz14] at eI16
  have qI16 : Zs 0 I16 a [1, 2, 3, 4] := by rw [eI16]; exact qI11.add (by omega)
  have lI16 : Lo a I I16 := by rw [eI16]; exact lI11.clr
  have fI16 : I16 a = I11 a := by rw [eI16]; exact clr_ne _ _ (by omega)
  refine ok_nq fun z19 ez19 => ?_
  rw [ez17] at ez19
  have hz19 : Lay z19 a 0 5 [(0, 1, 7, 10), (1, 2, 7, 16), (2, 3, 7, 16), (3, 4, 7, 8)] := by rw [ez19]; exact hz14.add 3 7 8 (by decide)
  have xz19 : Ext a z z19 := by rw [ez19]; exact xz14.al (by rw [sz14]; omega) (Nat.le_refl _)
  have sz19 : zs z19 = a + 5 := hz19.1
  refine ok_nq fun z22 ez22 => ?_
  refine ok_nq fun I21 eI21 => ?_
  rw [sz19] at eI21
  have qI21 : Zs 0 I21 a [1, 2, 3, 4, 5] := by rw [eI21]; exact qI16.add (by omega)
  have lI21 : Lo a I I21 := by rw [eI21]; exact lI16.clr
  have fI21 : I21 a = I16 a := by rw [eI21]; exact clr_ne _ _ (by omega)
  refine ok_nq fun z24 ez24 => ?_
  rw [ez22] at ez24
  have hz24 : Lay z24 a 0 6 [(0, 1, 7, 10), (1, 2, 7, 16), (2, 3, 7, 16), (3, 4, 7, 8), (4, 5, 7, 160)] := by rw [ez24]; exact hz19.add 4 7 160 (by decide)
  have xz24 : Ext a z z24 := by rw [ez24]; exact xz19.al (by rw [sz19]; omega) (Nat.le_refl _)
  have sz24 : zs z24 = a + 6 := hz24.1
  refine ok_nq fun z27 ez27 => ?_
  refine ok_nq fun I26 eI26 => ?_
  rw [sz24] at eI26
  have qI26 : Zs 0 I26 a [1, 2, 3, 4, 5, 6] := by rw [eI26]; exact qI21.add (by omega)
  have lI26 : Lo a I I26 := by rw [eI26]; exact lI21.clr
  have fI26 : I26 a = I21 a := by rw [eI26]; exact clr_ne _ _ (by omega)
  refine ok_nq fun z29 ez29 => ?_
  rw [ez27] at ez29
  have hz29 : Lay z29 a 0 7 [(0, 1, 7, 10), (1, 2, 7, 16), (2, 3, 7, 16), (3, 4, 7, 8), (4, 5, 7, 160), (5, 6, 7, 160)] := by rw [ez29]; exact hz24.add 5 7 160 (by decide)
  have xz29 : Ext a z z29 := by rw [ez29]; exact xz24.al (by rw [sz24]; omega) (Nat.le_refl _)
  have sz29 : zs z29 = a + 7 := hz29.1
  refine ok_nq fun z32 ez32 => ?_
  refine ok_nq fun I31 eI31 => ?_
  rw [sz29] at eI31
  have qI31 : Zs 0 I31 a [1, 2, 3, 4, 5, 6, 7] := by rw [eI31]; exact qI26.add (by omega)
  have lI31 : Lo a I I31 := by rw [eI31]; exact lI26.clr
  have fI31 : I31 a = I26 a := by rw [eI31]; exact clr_ne _ _ (by omega)
  refine ok_nq fun z34 ez34 => ?_
  rw [ez32] at ez34
  have hz34 : Lay z34 a 0 8 [(0, 1, 7, 10), (1, 2, 7, 16), (2, 3, 7, 16), (3, 4, 7, 8), (4, 5, 7, 160), (5, 6, 7, 160), (6, 7, 7, 16)] := by rw [ez34]; exact hz29.add 6 7 16 (by decide)
  have xz34 : Ext a z z34 := by rw [ez34]; exact xz29.al (by rw [sz29]; omega) (Nat.le_refl _)
  have sz34 : zs z34 = a + 8 := hz34.1
  refine ok_wq fun I36 eI36 => ?_
  have qI36 : Zs 0 I36 a [1, 2, 3, 4, 5, 6, 7] := by rw [eI36]; exact qI31.wf
  have lI36 : Lo a I I36 := by rw [eI36]; exact lI31.wf
  have fI36 : I36 a = pu (I31 a) 7 0 := by rw [eI36]; exact ms_r
  refine ok_nq fun z38 ez38 => ?_
  refine ok_nq fun I37 eI37 => ?_
  rw [sz34] at eI37
  have qI37 : Zs 0 I37 a [1, 2, 3, 4, 5, 6, 7, 8] := by rw [eI37]; exact qI36.add (by omega)
  have lI37 : Lo a I I37 := by rw [eI37]; exact lI36.clr
  have fI37 : I37 a = I36 a := by rw [eI37]; exact clr_ne _ _ (by omega)
  refine ok_nq fun z40 ez40 => ?_
  rw [ez38] at ez40
  have hz40 : Lay z40 a 0 9 [(0, 1, 7, 10), (1, 2, 7, 16), (2, 3, 7, 16), (3, 4, 7, 8), (4, 5, 7, 160), (5, 6, 7, 160), (6, 7, 7, 16), (8, 8, 7, 864)] := by rw [ez40]; exact hz34.add 8 7 864 (by decide)
  have xz40 : Ext a z z40 := by rw [ez40]; exact xz34.al (by rw [sz34]; omega) (Nat.le_refl _)
  have sz40 : zs z40 = a + 9 := hz40.1
  refine ok_wq fun I42 eI42 => ?_
  have qI42 : Zs 0 I42 a [1, 2, 3, 4, 5, 6, 7, 8] := by rw [eI42]; exact qI37.wf
  have lI42 : Lo a I I42 := by rw [eI42]; exact lI37.wf
  have fI42 : I42 a = pu (I37 a) 9 0 := by rw [eI42]; exact ms_r
  refine ok_wq fun I43 eI43 => ?_
  have qI43 : Zs 0 I43 a [1, 2, 3, 4, 5, 6, 7, 8] := by rw [eI43]; exact qI42.wf
  have lI43 : Lo a I I43 := by rw [eI43]; exact lI42.wf
  have fI43 : I43 a = pu (I42 a) 10 0 := by rw [eI43]; exact ms_r
  refine ok_nq fun z45 ez45 => ?_
  refine ok_nq fun I44 eI44 => ?_
  rw [sz40] at eI44
  have qI44 : Zs 0 I44 a [1, 2, 3, 4, 5, 6, 7, 8, 9] := by rw [eI44]; exact qI43.add (by omega)
  have lI44 : Lo a I I44 := by rw [eI44]; exact lI43.clr
  have fI44 : I44 a = I43 a := by rw [eI44]; exact clr_ne _ _ (by omega)
  refine ok_nq fun z47 ez47 => ?_
  rw [ez45] at ez47
  have hz47 : Lay z47 a 0 10 [(0, 1, 7, 10), (1, 2, 7, 16), (2, 3, 7, 16), (3, 4, 7, 8), (4, 5, 7, 160), (5, 6, 7, 160), (6, 7, 7, 16), (8, 8, 7, 864), (11, 9, 7, 864)] := by rw [ez47]; exact hz40.add 11 7 864 (by decide)
  have xz47 : Ext a z z47 := by rw [ez47]; exact xz40.al (by rw [sz40]; omega) (Nat.le_refl _)
  have sz47 : zs z47 = a + 10 := hz47.1
  refine ok_wq fun I49 eI49 => ?_
  have qI49 : Zs 0 I49 a [1, 2, 3, 4, 5, 6, 7, 8, 9] := by rw [eI49]; exact qI44.wf
  have lI49 : Lo a I I49 := by rw [eI49]; exact lI44.wf
  have fI49 : I49 a = pu (I44 a) 12 0 := by rw [eI49]; exact ms_r
  refine ok_gd (show oX0 z47 a from hz47.2.2.1) (ok_bs (fl_s (by omega)) (ok_bs (fl_s (by omega)) (ok_some ⟨⟨sz47, hz47.2.2.1, xz47⟩, fun b hb => ?_, ?_⟩)))
  · dsimp only; rw [sr_o (by omega), sr_o (by omega)]; exact lI49 b hb
  · have w : ∀ k, k ∈ [1, 2, 3, 4, 5, 6, 7, 8, 9] → I49 (a + k) = fun _ => 0 := fun k hk => (qI49 k hk).2
    have e0 : I49 a 7 = 0 ∧ I49 a 9 = 0 ∧ I49 a 10 = 0 ∧ I49 a 12 = 0 := by rw [fI49, fI44, fI43, fI42, fI37, fI36, fI31, fI26, fI21, fI16, fI11, fI6, fI1]; exact ⟨rfl, rfl, rfl, rfl⟩
    refine ⟨fun i hi => by omega, fun o ho => ?_, fun o ho => ?_, fun h hh => ?_, fun c hc => ?_, fun c hc => ?_, ⟨?_, ?_, fun k c hk => nomatch hk⟩, ⟨?_, fun k c hk => nomatch hk⟩, ?_, fun k c hk => nomatch hk⟩
    · dsimp only; rw [sr_o (by omega), sr_o (by omega), w 2 (by decide)]; rfl
    · dsimp only; rw [sr_o (by omega), sr_s, ← Nat.zero_add o, ffl_i ho]; rfl
    · dsimp only; rw [sr_s, ← Nat.zero_add h, ffl_i hh]; rfl
    · dsimp only; rw [sr_o (by omega), sr_o (by omega), w 5 (by decide)]; rfl
    · dsimp only; rw [sr_o (by omega), sr_o (by omega), w 6 (by decide)]; rfl
    · dsimp only; rw [sr_o (by omega), sr_o (by omega), e0.2.1]; rfl
    · dsimp only; rw [sr_o (by omega), sr_o (by omega), e0.2.2.1]; rfl
    · dsimp only; rw [sr_o (by omega), sr_o (by omega), e0.2.2.2]; rfl
    · dsimp only; rw [sr_o (by omega), sr_o (by omega), e0.1]; rfl
