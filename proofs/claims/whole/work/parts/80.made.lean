/-! the class made, the start -/
theorem in_2s {z : Sh} {I : MI} {a : Nat} (L : Lay z a 2 1 []) : Ok (f_X2_init a z I) (fun r => (zs r.1 = a + 2 ∧ (a ∈ zL r.1 ∧ zK r.1 a = 2) ∧ Ext a z r.1) ∧ Lo a I r.2) := by
  refine in_2.im (fun r h => ?_)
  obtain ⟨h1, h2⟩ := h
  have hs := L.1
  have L2 := L.add 0 6 0 (fun q hq => nomatch hq)
  refine ⟨?_, fun b hb => h2 b (by omega) (by omega)⟩
  rw [h1]
  exact ⟨L2.1, L2.2.2.1.1, Ext.rf.al (by omega) (Nat.le_refl _)⟩
noncomputable def chn (x c k : Nat) (f : Nat → Sh → MI → Option (Sh × MI)) (G : Sh × MI → Sh → Option (Sh × MI)) (z : Sh) (I : MI) : Option (Sh × MI) := (nm (zNw z c)).bind fun z18 => (nm (clr 0 I (zs z))).bind fun I17 => (f (zs z) z18 I17).bind fun r21 => (gd (zs z18 ≤ zs r21.1)).bind fun _ => (gd (raw r21.1 x 4)).bind fun _ => (gd (raw r21.1 (zs z) c)).bind fun _ => (nm (zSt r21.1 x k (some (zs z)))).bind fun z25 => G r21 z25
theorem stc {x c k h a : Nat} {z : Sh} {I : MI} {f : Nat → Sh → MI → Option (Sh × MI)} {G : Sh × MI → Sh → Option (Sh × MI)} {Q : Sh × MI → Prop} {S : Sh × MI → Prop} (hs : zs z = a) (hxa : x < a) (hx : x ∈ zL z ∧ zK z x = 4) (hf : ∀ z' I', Lay z' a c 1 [] → Ok (f a z' I') (fun r => (zs r.1 = a + h ∧ S r ∧ Ext a z' r.1) ∧ Lo a I' r.2)) (hS : ∀ r, S r → a ∈ zL r.1 ∧ zK r.1 a = c) (hh : 1 ≤ h) (K : ∀ r, zs r.1 = a + h → Ext a z r.1 → (∀ b, b < a → r.2 b = I b) → S r → Ok (G r (zSt r.1 x k (some a))) Q) : Ok (chn x c k f G z I) Q := stg hs hxa hx hf hS hh K
noncomputable def w55 (x : Nat) (z : Sh) (I : MI) : Option (Sh × MI) := (nm (zNa z 10 12)).bind fun z57 => (nm (zSt z57 x 7 (some (zs z)))).bind fun z59 => (wf I x 8 0).bind fun I61 => (wf I61 x 9 0).bind fun I62 => (nm (zNa z59 10 2)).bind fun z63 => (nm (zSt z63 x 10 (some (zs z59)))).bind fun z65 => (nm (zNa z65 9 2)).bind fun z68 => (nm (clr 0 I62 (zs z65))).bind fun I67 => (nm (zSt z68 x 11 (some (zs z65)))).bind fun z70 => (nm (zSt z70 x 12 none)).bind fun z72 => some ((z72, I67))
noncomputable def w45 (x : Nat) (z : Sh) (I : MI) : Option (Sh × MI) := chn x 1 6 f_X1_init (fun r z' => w55 x z' r.2) z I
noncomputable def w35 (x : Nat) (z : Sh) (I : MI) : Option (Sh × MI) := chn x 0 5 f_X0_init (fun r z' => w45 x z' r.2) z I
noncomputable def w25 (x : Nat) (z : Sh) (I : MI) : Option (Sh × MI) := chn x 3 4 f_X3_init (fun r z' => w35 x z' r.2) z I
noncomputable def w15 (x : Nat) (z : Sh) (I : MI) : Option (Sh × MI) := chn x 3 3 f_X3_init (fun r z' => w25 x z' r.2) z I
noncomputable def w04 (x : Nat) (z : Sh) (I : MI) : Option (Sh × MI) := chn x 2 2 f_X2_init (fun r z' => w15 x z' r.2) z I
theorem w_eq {x : Nat} {z : Sh} {I : MI} : f_X4_init x z I = ((nm (zNa z 6 600)).bind fun z2 => (nm (clr 0 I (zs z))).bind fun I1 => (nm (zSt z2 x 0 (some (zs z)))).bind fun z4 => (wf I1 x 1 0).bind fun I6 => w04 x z4 I6) := by
  unfold f_X4_init w04 w15 w25 w35 w45 w55 chn
  rfl
def Zx (x h : Nat) (I : MI) (r : Sh × MI) : Prop := (zs r.1 = x + 46 ∧ oX4 r.1 x (x + 4) (x + 14) ∧ (∀ s, s < 15 → slt x r.1 s = none)) ∧ (∀ b, b ≠ x → b < x + h → r.2 b = I b) ∧ r.2 x = pu (pu (I x) 8 0) 9 0 ∧ r.2 (x + 45) = fun _ => 0
theorem Zx.dn {x h h' : Nat} {I I' : MI} {r : Sh × MI} (H : Zx x h I r) (hh : h' ≤ h) (h0 : 1 ≤ h') (e : ∀ b, b < x + h' → I b = I' b) : Zx x h' I' r := ⟨H.1, fun b h1 h2 => (H.2.1 b h1 (by omega)).trans (e b h2), by rw [H.2.2.1, e x (by omega)], H.2.2.2⟩
theorem in_0s {z : Sh} {I : MI} {a : Nat} (L : Lay z a 0 1 []) : Ok (f_X0_init a z I) (fun r => (zs r.1 = a + 10 ∧ (oX0 r.1 a ∧ CF 0 r.2 a (fl1 (fun _ => 0))) ∧ Ext a z r.1) ∧ Lo a I r.2) := by
  have e : fl0 = fl1 (fun _ => 0) := rfl
  refine (in_0 L).im (fun r h => ?_)
  obtain ⟨⟨h1, h2, h3⟩, h4, h5⟩ := h
  rw [e] at h5
  exact ⟨⟨h1, ⟨h2, h5⟩, h3⟩, h4⟩
theorem in_3s {z : Sh} {I : MI} {a : Nat} (L : Lay z a 3 1 []) : Ok (f_X3_init a z I) (fun r => (zs r.1 = a + 10 ∧ (oX3 r.1 a ∧ CT r.2 a (tB B0 (fun _ => 0))) ∧ Ext a z r.1) ∧ Lo a I r.2) := by
  refine (in_3 L).im (fun r h => ?_)
  obtain ⟨⟨h1, h2, h3⟩, h4, h5, c0, c1, c2, c3, c4, c5, c6, c10⟩ := h
  have ht := z0_3 h5 ⟨c1, c3, c4, c6, c10⟩
  exact ⟨⟨h1, ⟨h2, ht⟩, h3⟩, h4⟩
theorem v45 {x : Nat} {z : Sh} {I : MI} {l : Nat → Option Nat} (s : zs z = x + 34) (P : Pd x l z) (hl : l 0 = some (x + 1) ∧ l 2 = some (x + 2) ∧ l 3 = some (x + 4) ∧ l 4 = some (x + 14) ∧ l 5 = some (x + 24)) : Ok (w45 x z I) (Zx x 34 I) := by
  unfold w45
  refine stc (a := x + 34) (h := 9) (S := fun r => oX1 r.1 (x + 34)) s (by omega) P.1.1.1.1.1 (fun z' I' L => (in_1 L).im (fun r h => ⟨h.1, h.2.1⟩)) (fun r h => h.1) (by omega) (fun r51 s51 e51 m51 S51 => ?_)
  have P55 : Pe x (pu l 6 (some (x + 34))) (zSt r51.1 x 6 (some (x + 34))) := Pe.st ⟨P.ex e51 (by omega), S51⟩
  have H : Ok (w55 x (zSt r51.1 x 6 (some (x + 34))) r51.2) (Zx x 43 r51.2) := in_4t s51 P55 ⟨hl.1, hl.2.1, hl.2.2.1, hl.2.2.2.1, hl.2.2.2.2, rfl⟩
  exact H.im (fun r hr => hr.dn (by omega) (by omega) m51)
theorem v35 {x : Nat} {z : Sh} {I : MI} {l : Nat → Option Nat} (s : zs z = x + 24) (P : Pc x l z) (hl : l 0 = some (x + 1) ∧ l 2 = some (x + 2) ∧ l 3 = some (x + 4) ∧ l 4 = some (x + 14)) : Ok (w35 x z I) (fun r => Zx x 24 I r ∧ CF 0 r.2 (x + 24) (fl1 (fun _ => 0))) := by
  unfold w35
  refine stc (a := x + 24) (h := 10) (S := fun r => oX0 r.1 (x + 24) ∧ CF 0 r.2 (x + 24) (fl1 (fun _ => 0))) s (by omega) P.1.1.1.1 (fun z' I' L => in_0s L) (fun r h => h.1.1) (by omega) (fun r41 s41 e41 m41 S41 => ?_)
  obtain ⟨So, Sc⟩ := S41
  have P45 : Pd x (pu l 5 (some (x + 24))) (zSt r41.1 x 5 (some (x + 24))) := Pd.st ⟨P.ex e41 (by omega), So⟩
  obtain ⟨r, hr1, hr⟩ := v45 (x := x) (z := zSt r41.1 x 5 (some (x + 24))) (l := pu l 5 (some (x + 24))) (I := r41.2) s41 P45 ⟨hl.1, hl.2.1, hl.2.2.1, hl.2.2.2, rfl⟩
  refine ⟨r, hr1, ?_⟩
  have h2 : Zx x 24 I r := hr.dn (by omega) (by omega) m41
  have h3 : ∀ q, q < 10 → r.2 (x + 24 + q) = r41.2 (x + 24 + q) := fun q hq => hr.2.1 _ (by omega) (by omega)
  have h4 : CF 0 r.2 (x + 24) (fl1 (fun _ => 0)) := CF.fr Sc h3
  exact ⟨h2, h4⟩
theorem v25 {x : Nat} {z : Sh} {I : MI} {l : Nat → Option Nat} (s : zs z = x + 14) (P : Pb x l z) (hl : l 0 = some (x + 1) ∧ l 2 = some (x + 2) ∧ l 3 = some (x + 4)) : Ok (w25 x z I) (fun r => Zx x 14 I r ∧ CF 0 r.2 (x + 24) (fl1 (fun _ => 0))) := by
  unfold w25
  refine stc (a := x + 14) (h := 10) (S := fun r => oX3 r.1 (x + 14)) s (by omega) P.1.1.1 (fun z' I' L => (in_3 L).im (fun r h => ⟨h.1, h.2.1⟩)) (fun r h => h.1) (by omega) (fun r31 s31 e31 m31 S31 => ?_)
  have P35 : Pc x (pu l 4 (some (x + 14))) (zSt r31.1 x 4 (some (x + 14))) := Pc.st ⟨P.ex e31 (by omega), S31⟩
  exact (v35 (x := x) (z := zSt r31.1 x 4 (some (x + 14))) (l := pu l 4 (some (x + 14))) (I := r31.2) s31 P35 ⟨hl.1, hl.2.1, hl.2.2, rfl⟩).im (fun r hr => ⟨hr.1.dn (by omega) (by omega) m31, hr.2⟩)
theorem v15 {x : Nat} {z : Sh} {I : MI} {l : Nat → Option Nat} (s : zs z = x + 4) (P : Pa x l z) (hl : l 0 = some (x + 1) ∧ l 2 = some (x + 2)) : Ok (w15 x z I) (fun r => Zx x 4 I r ∧ CF 0 r.2 (x + 24) (fl1 (fun _ => 0)) ∧ CT r.2 (x + 4) (tB B0 (fun _ => 0))) := by
  unfold w15
  refine stc (a := x + 4) (h := 10) (S := fun r => oX3 r.1 (x + 4) ∧ CT r.2 (x + 4) (tB B0 (fun _ => 0))) s (by omega) P.1.1 (fun z' I' L => in_3s L) (fun r h => h.1.1) (by omega) (fun r21 s21 e21 m21 S21 => ?_)
  obtain ⟨So, Sc⟩ := S21
  have P25 : Pb x (pu l 3 (some (x + 4))) (zSt r21.1 x 3 (some (x + 4))) := Pb.st ⟨P.ex e21 (by omega), So⟩
  obtain ⟨r, hr1, hr, hf⟩ := v25 (x := x) (z := zSt r21.1 x 3 (some (x + 4))) (l := pu l 3 (some (x + 4))) (I := r21.2) s21 P25 ⟨hl.1, hl.2, rfl⟩
  refine ⟨r, hr1, ?_⟩
  have h2 : Zx x 4 I r := hr.dn (by omega) (by omega) m21
  have h3 : ∀ q, q < 10 → r.2 (x + 4 + q) = r21.2 (x + 4 + q) := fun q hq => hr.2.1 _ (by omega) (by omega)
  have h4 : CT r.2 (x + 4) (tB B0 (fun _ => 0)) := CT.fr Sc h3
  exact ⟨h2, hf, h4⟩
theorem v04 {x : Nat} {z : Sh} {I : MI} {l : Nat → Option Nat} (s : zs z = x + 2) (X : Xs x z l) (T : Rw z (x + 1) 6 600) (hl : l 0 = some (x + 1)) : Ok (w04 x z I) (fun r => Zx x 2 I r ∧ CF 0 r.2 (x + 24) (fl1 (fun _ => 0)) ∧ CT r.2 (x + 4) (tB B0 (fun _ => 0))) := by
  unfold w04
  refine stc (a := x + 2) (h := 2) (S := fun r => (x + 2) ∈ zL r.1 ∧ zK r.1 (x + 2) = 2) s (by omega) X.1 (fun z' I' L => in_2s L) (fun r h => h) (by omega) (fun r11 s11 e11 m11 S11 => ?_)
  have P15 : Pa x (pu l 2 (some (x + 2))) (zSt r11.1 x 2 (some (x + 2))) := Pa.st ⟨X.ex e11 (by omega), T.ex e11 (by omega), S11⟩
  exact (v15 (x := x) (z := zSt r11.1 x 2 (some (x + 2))) (l := pu l 2 (some (x + 2))) (I := r11.2) s11 P15 ⟨hl, rfl⟩).im (fun r hr => ⟨hr.1.dn (by omega) (by omega) m11, hr.2⟩)
theorem in_4 {z : Sh} {I : MI} {x : Nat} (sz : zs z = x + 1) (hx : x ∈ zL z ∧ zK z x = 4) : Ok (f_X4_init x z I) (fun r => (zs r.1 = x + 46 ∧ oX4 r.1 x (x + 4) (x + 14) ∧ (∀ s, s < 15 → slt x r.1 s = none)) ∧ CT r.2 (x + 4) (tB B0 (fun _ => 0)) ∧ CF 0 r.2 (x + 24) (fl1 (fun _ => 0)) ∧ r.2 x 1 = 0 ∧ r.2 x 8 = 0 ∧ r.2 x 9 = 0 ∧ r.2 (x + 45) = fun _ => 0) := by
  rw [w_eq]
  refine ok_nq fun z2 ez2 => ok_nq fun I1 eI1 => ok_nq fun z4 ez4 => ok_wq fun I6 eI6 => ?_
  rw [sz] at ez4
  have e2 : Ext (x + 1) z z2 := by rw [ez2]; exact Ext.na 6 600 (by omega)
  have X0 : Xs x z (zR z x) := ⟨hx, rfl⟩
  have X4 : Xs x z4 (pu (zR z x) 0 (some (x + 1))) := by rw [ez4]; exact (X0.ex e2 (by omega)).st
  have T4 : Rw z4 (x + 1) 6 600 := by rw [ez4, ez2, ← sz]; exact Rw.na.st
  have s4 : zs z4 = x + 2 := by rw [ez4, ez2]; show zs z + 1 = _; omega
  have m6 : I6 x 1 = 0 := by rw [eI6, mst_self]
  refine (v04 (I := I6) s4 X4 T4 pu_s).im (fun r hr => ?_)
  obtain ⟨⟨h1, h2, h3, h4⟩, hF, hT⟩ := hr
  refine ⟨h1, hT, hF, ?_, ?_, ?_, h4⟩
  · rw [h3, pu_n (by omega), pu_n (by omega)]; exact m6
  · rw [h3, pu_n (by omega), pu_s]
  · rw [h3, pu_s]
theorem in_L {z : Sh} {J : MJ} {I : MI} : Ok (f_Ls z J I) (fun r => r.1 = zs z ∧ r.2.1 = zs z + 46 ∧ r.2.2.1 = zs z + 69 ∧ Inv (zs z) (zs z + 4) (zs z + 14) r.2.2.2.1 r.2.2.2.2.1 r.2.2.2.2.2) := by
  unfold f_Ls
  generalize hx : zs z = x
  refine ok_nq fun z2 ez2 => ok_nq fun I1 eI1 => ?_
  have R2 : raw z2 x 4 := by rw [ez2, ← hx]; exact raw.new 4
  have s2 : zs z2 = x + 1 := by rw [ez2]; show zs z + 1 = _; omega
  refine ok_bind (in_4 (x := x) s2 ⟨R2.1, R2.2.1⟩) (fun r4 h4 => ?_)
  obtain ⟨⟨s4, o4, n4⟩, hT, hF, h1, h8, h9, h44⟩ := h4
  rw [s4]
  refine ok_gd (by omega) (ok_gd ⟨o4.1.1, o4.1.2, by omega⟩ (ok_nq fun z9 ez9 => ok_nq fun I7 eI7 => ok_nq fun J8 eJ8 => ?_))
  have L9 : Lay z9 (x + 46) 5 1 [] := by rw [ez9, ← s4]; exact Lay.new 5
  have e9 : Ext (x + 46) r4.1 z9 := by rw [ez9]; exact Ext.nw 5 (by omega)
  refine ok_bind (in_5 (J := J8) (I := I7) L9 (by rw [eI7]; exact clr_self _ _ _)) (fun r12 h12 => ?_)
  obtain ⟨⟨s12, o12, e12⟩, l12, hMT, hMF, k0, k16⟩ := h12
  have E12 := e9.tr e12
  have o412 := o4.ext E12 (Nat.le_refl _) (by omega) (by omega)
  refine ok_gd (by have := L9.1; omega) (ok_gd ⟨o412.1.1, o412.1.2, by omega⟩ (ok_gd ⟨o12.1.1, o12.1.2, by omega⟩ (ok_nq fun z17 ez17 => ok_nq fun J16 eJ16 => ok_some ?_)))
  have e17 : Ext (x + 69) r12.1 z17 := by rw [ez17]; exact Ext.na 8 1 (by omega)
  have W17 : Rw z17 (x + 69) 8 1 := by rw [ez17, show x + 69 = zs r12.1 by omega]; exact Rw.na
  have s17 : zs z17 = x + 70 := by rw [ez17]; show zs r12.1 + 1 = _; omega
  have sn : ∀ s, s < 15 → slt x z17 s = none := fun s hs => by rw [slt_e e17 (by omega), slt_e E12 (by omega)]; exact n4 s hs
  have fI : ∀ b, b < x + 46 → r12.2.2 b = r4.2 b := fun b hb => by rw [l12 b hb, eI7, clr_ne _ _ (by omega)]
  refine ⟨rfl, rfl, by show zs r12.1 = _; omega, (tB B0 (fun _ => 0), fl1 (fun _ => 0), 0, fun _ => 0, [], fun _ => none), ⟨gt_b gb_0.1 gb_0.2 ⟨fun e he => absurd he (Nat.not_lt_zero _), fun e e' _ he => absurd he (Nat.not_lt_zero _), fun o ho => absurd ho (Nat.not_lt_zero _)⟩, gf_1 (fun i hi => absurd hi (Nat.not_lt_zero _)), ⟨Nat.zero_le _, rfl, fun k hk => absurd hk (Nat.not_lt_zero _)⟩, fun B hB => (nomatch hB), fun k B _ hB => (nomatch hB)⟩, ⟨o412.ext e17 (by omega) (by omega) (by omega), o12.ext e17 (by omega), W17, Or.inl ⟨rfl, rfl⟩, by show x + 70 ≤ zs z17; omega, fun s a hs ha => ?_, fun s s' a a' hs _ _ ha _ => ?_⟩, ⟨hT.fr (fun r hr => fI _ (by omega)), hF.fr (fun r hr => fI _ (by omega)), ⟨?_, fun k hk => absurd hk (Nat.not_lt_zero _)⟩, ⟨0, by omega, ?_, fun j B hj => (nomatch hj)⟩, ?_, Nat.zero_le _, fun k hk => ⟨fun _ => ?_, fun B hB => (nomatch hB)⟩⟩, hMT, hMF, ⟨?_, fun k hk => absurd hk (Nat.not_lt_zero _)⟩, fun j B hj => (nomatch hj), ?_, fun k hk => ⟨fun _ => ?_, fun B hB => (nomatch hB)⟩⟩
  · have := (sn s hs).symm.trans ha
    cases this
  · have := (sn s hs).symm.trans ha
    cases this
  · show r12.2.2 x 1 = _
    rw [fI x (by omega)]; exact h1
  · show r12.2.2 x 8 = _
    rw [fI x (by omega)]; exact h8
  · show r12.2.2 x 9 = _
    rw [fI x (by omega)]; exact h9
  · show r12.2.2 (x + 45) k = _
    rw [fI _ (by omega), h44]
  · show r12.2.2 (x + 46) 2 = _
    rw [k0]; rfl
  · show r12.2.2 (x + 46) 29 = _
    rw [k0]; rfl
  · show r12.2.2 (x + 46 + 16) k = _
    rw [k16]
theorem pure_ok : PureOk := by
  intro B L xs hL
  obtain ⟨⟨x, m, o, z, J, I⟩, hr, h1, h2, h3, hI⟩ := in_L (z := (B, [], fun _ => 0, fun _ => 0, fun _ _ => none)) (J := fun _ _ => 0) (I := fun _ _ => 0)
  dsimp only at h1 h2 h3 hI
  generalize zs (B, ([] : List Nat), (fun _ => 0 : Nat → Nat), (fun _ => 0 : Nat → Nat), (fun _ _ => none : Nat → Nat → Option Nat)) = b at h1 h2 h3 hI
  subst h1 h2 h3
  exact ⟨_, Inv x, x + 4, x + 14, hr, fun t u z J I h => h.elim (fun D hD => ⟨hD.2.1.1, hD.2.1.2.1, hD.2.1.2.2.1⟩), ⟨case_0 hL, case_1 hL, case_2 hL, case_3 hL, case_4 hL, case_5 hL, case_6, case_7 hL, case_8, case_9 hL, case_10, case_11 hL, case_12 hL, case_13 hL, case_14 hL, case_15 hL, case_16 hL, case_17 hL, case_18 hL, case_19, case_20 hL, case_21 hL, case_22, case_23, case_24, case_25 hL, case_26 hL⟩, hI⟩
