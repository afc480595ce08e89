/-! lines of a text: what they do; the class's short ones -/
def bsHol (B : Bd) (v : Nat) : Bd := ((1, bWt B, v, bW B, bU B, bI B, bO B), bNm B, bP B, bS B, bQ B, bD B, bN B)
def bsWav (B : Bd) (v x : Nat) : Bd := ((bHt B, 1, bH B, v, x, bI B, bO B), bNm B, bP B, bS B, bQ B, bD B, bN B)
def bsItm (B : Bd) (q p s : Nat) : Bd := ((bHt B, bWt B, bH B, bW B, bU B, bI B + 1, bO B), pu (bNm B) (bI B) q, pu (bP B) (bI B) p, pu (bS B) (bI B) s, bQ B, bD B, bN B)
/-- the order in the making -/
def bsQ (B : Bd) (q d : Nat) : Bd := (B.1, bNm B, bP B, bS B, pu (bQ B) (bO B) q, pu (bD B) (bO B) d, bN B)
def bsN (B : Bd) (c v : Nat) : Bd := (B.1, bNm B, bP B, bS B, bQ B, bD B, pu (bN B) c v)
def bsO (B : Bd) : Bd := ((bHt B, bWt B, bH B, bW B, bU B, bI B, bO B + 1), bNm B, bP B, bS B, bQ B, bD B, bN B)
def GN (B : Bd) : Prop := (∀ c, c < 160 → bN B c ≤ 9 ∧ (bO B ≤ c / 10 ∨ bI B ≤ c % 10 → bN B c = 0)) ∧ ∀ o, o < bO B → 0 < sm (bN B) (10 * o) 10 ∧ sm (bN B) (10 * o) 10 ≤ 54
def pB {α β : Type} (x : Nat ⊕ α) (f : α → Nat ⊕ β) : Nat ⊕ β := Sum.elim .inl f x
section PL
variable (bt : Nat → Nat) (n : Nat)
def pHol (t : Tk) (B : Bd) : Nat ⊕ (Tk × Bd) := pB (pN bt n 1 8 t) (fun w => .inr (w.2, bsHol B w.1))
def pWav (t : Tk) (B : Bd) : Nat ⊕ (Tk × Bd) := pB (pN bt n 1 8 t) (fun w => pB (pN bt n 1 60 w.2) (fun y => .inr (y.2, bsWav B w.1 y.1)))
def pItm (t : Tk) (B : Bd) : Nat ⊕ (Tk × Bd) := pB (pW bt n t B) (fun q => pB (pN bt n 0 99 q.2) (fun w => pB (pN bt n 0 99 w.2) (fun y => .inr (y.2, bsItm B q.1 w.1 y.1))))
def pUn (t : Tk) (B : Bd) (o k : Nat) : Nat ⊕ (Tk × Bd) :=
  if isN t then
    if fnd (bNm B) t.2.2.2 (bI B) < bI B then
      if bN B (10 * o + fnd (bNm B) t.2.2.2 (bI B)) = 0 then
        if k < 6 then pB (pN bt n 1 9 (tok bt n t.2.1)) (fun w => .inr (w.2, bsN B (10 * o + fnd (bNm B) t.2.2.2 (bI B)) w.1))
        else .inl (8 * t.1 + 5)
      else .inl (8 * t.1 + 2)
    else .inl (8 * t.1 + 3)
  else .inl (8 * t.1 + 1)
def pUs : Nat → Tk → Bd → Nat → Nat → Nat ⊕ (Tk × Bd)
  | 0, t, _, _, _ => .inl (8 * t.1 + 5)
  | f + 1, t, B, o, k => pB (pUn bt n t B o k) (fun w => if w.1.2.2.1 = 1 then pUs f w.1 w.2 o (k + 1) else .inr w)
def pOrd (t : Tk) (B : Bd) : Nat ⊕ (Tk × Bd) := pB (pW bt n t B) (fun q => pB (pN bt n 0 99 q.2) (fun d => pB (pUs bt n 7 d.2 (bsQ B q.1 d.1) (bO B) 0) (fun w => .inr (w.1, bsO w.2))))
def pCl (w : Tk × Bd) : Nat ⊕ (Tk × Bd) := if w.1.2.2.1 = 3 then .inr (tok bt n w.1.2.1, w.2) else .inl (8 * w.1.1 + 1)
def wht (t : Tk) : Nat := if t.2.2.1 = 1 then (if t.2.2.2 = 8892595 then 0 else if t.2.2.2 = 755397 then 1 else if t.2.2.2 = 315565 then 2 else if t.2.2.2 = 16322738 then 3 else 4) else 4
def pLn (t : Tk) (B : Bd) : Nat ⊕ (Tk × Bd) :=
  if wht t = 0 then (if bHt B = 0 then pB (pHol bt n (tok bt n t.2.1) B) (pCl bt n) else .inl (8 * t.1 + 2))
  else if wht t = 1 then (if bWt B = 0 then pB (pWav bt n (tok bt n t.2.1) B) (pCl bt n) else .inl (8 * t.1 + 2))
  else if wht t = 2 then (if bI B < 10 then pB (pItm bt n (tok bt n t.2.1) B) (pCl bt n) else .inl (8 * t.1 + 5))
  else if wht t = 3 then (if bO B < 16 then pB (pOrd bt n (tok bt n t.2.1) B) (pCl bt n) else .inl (8 * t.1 + 5))
  else .inl (8 * t.1 + 1)
end PL
/-- what a line's beginning leaves of the class -/
def LO (o n u : Nat) (t : Tk) (I I' : MI) (R : Nat ⊕ (Tk × Bd)) : Prop := (∀ b, b ≠ o → b < u ∨ u + 10 ≤ b → I' b = I b) ∧ I' u 0 = I u 0 ∧ Sum.elim (fun F => I' o 6 = nI F ∧ 0 < F ∧ F < 2 ^ 20) (fun w => CK I' o n w.1 ∧ I' o 6 = 0 ∧ CBd I' u w.2 (bO w.2) ∧ GK n w.1 ∧ GB w.2 ∧ GN w.2 ∧ t.2.1 ≤ w.1.1) R
theorem CBd.fi {I I' : MI} {u k : Nat} {B B' : Bd} (h : CBd I u B k) (e : ∀ r, 1 ≤ r → r < 10 → I' (u + r) = I (u + r)) (hB : B'.2 = B.2) (hI : bI B' = bI B) (hf : I' u 1 = nI (bH B') ∧ I' u 2 = nI (bHt B') ∧ I' u 3 = nI (bW B') ∧ I' u 4 = nI (bU B') ∧ I' u 5 = nI (bWt B') ∧ I' u 6 = nI (bI B') ∧ I' u 10 = nI k) : CBd I' u B' k := by
  refine ⟨hf, ?_⟩
  unfold CBd at h
  have e1 : bNm B' = bNm B := congrArg (fun q => q.1) hB
  have e2 : bP B' = bP B := congrArg (fun q => q.2.1) hB
  have e3 : bS B' = bS B := congrArg (fun q => q.2.2.1) hB
  have e4 : bQ B' = bQ B := congrArg (fun q => q.2.2.2.1) hB
  have e5 : bD B' = bD B := congrArg (fun q => q.2.2.2.2.1) hB
  have e6 : bN B' = bN B := congrArg (fun q => q.2.2.2.2.2) hB
  rw [e1, e2, e3, e4, e5, e6, hI, e 1 (by omega) (by omega), e 2 (by omega) (by omega), e 3 (by omega) (by omega), e 4 (by omega) (by omega), e 5 (by omega) (by omega), e 6 (by omega) (by omega), e 7 (by omega) (by omega), e 8 (by omega) (by omega), e 9 (by omega) (by omega)]
  exact h.2
theorem CK.fr {I I' : MI} {o n : Nat} {t : Tk} (h : CK I o n t) (e : I' o = I o) : CK I' o n t := by unfold CK at *; rw [e]; exact h
section LnC
variable {o a n u : Nat} {bt : Nat → Nat}
theorem ho_l (hoa : o ≠ a) (hou : o < u ∨ u + 10 ≤ o) (hau : a < u ∨ u + 10 ≤ a) {I : MI} {t : Tk} {B : Bd} (hT : Tape I a n bt) (hk : CK I o n t) (hg : GK n t) (h6 : I o 6 = 0) (hB : CBd I u B (bO B)) (gB : GB B) (gN : GN B) (ht : bHt B = 0) : Ok (f_X2_readHoles o a u I) (fun I' => LO o n u t I I' (pHol bt n (tok bt n t.2.1) B)) := by
  unfold f_X2_readHoles pHol
  refine ok_pos (by rw [hB.1.2.1, ht]; rfl) (ok_wq (fun I2 hI2 => ?_))
  have f2 : ∀ b, b ≠ u → I2 b = I b := fun b hb => by rw [hI2, mst_row _ _ _ hb]
  have k2 := hk.fr (f2 o (by omega))
  refine ok_bind (ad_c hoa (hT.fr (f2 a (by omega))) hg.2.1 k2.1 k2.2.1 (by rw [f2 o (by omega)]; exact h6)) (fun I3 hI3 => ?_)
  obtain ⟨k3, z3, f3⟩ := hI3
  have gt := gk_tok (bt := bt) hg.2.1
  refine ok_bind (rn_c (lo := 1) (hi := 8) hoa (hT.fr ((f3 a (fun q => hoa q.symm)).trans (f2 a (by omega)))) k3 gt.1 z3 (by omega) (by omega)) (fun r hr => ?_)
  obtain ⟨fr, hr⟩ := hr
  have eu : ∀ j, j ≠ 2 → r.2 u j = I u j := fun j hj => by rw [fr u (by omega), f3 u (by omega), hI2, mst_ne _ _ (Or.inr hj)]
  have eu2 : r.2 u 2 = 1 := by rw [fr u (by omega), f3 u (by omega), hI2, mst_self]
  have ef : ∀ b, b ≠ o → b ≠ u → r.2 b = I b := fun b h1 h2 => by rw [fr b h1, f3 b h1, f2 b h2]
  refine ok_wf (ok_some ⟨fun b h1 h2 => by rw [mst_row _ _ _ (by omega)]; exact ef b h1 (by omega), by rw [mst_ne _ _ (Or.inr (by omega))]; exact eu 0 (by omega), ?_⟩)
  cases hp : pN bt n 1 8 (tok bt n t.2.1) with
  | inl F =>
    rw [hp] at hr
    refine ⟨?_, hr.2⟩
    rw [mst_row _ _ _ (by omega)]
    exact hr.1
  | inr w =>
    rw [hp] at hr
    obtain ⟨w1, w2, w3, w4, w5, w6, w7⟩ := hr
    refine ⟨w2.fr (mst_row _ _ _ (by omega)), by rw [mst_row _ _ _ (by omega)]; exact w3, hB.fi (fun r h1 h2 => by rw [mst_row _ _ _ (by omega)]; exact ef _ (by omega) (by omega)) rfl rfl ?_, w4, ?_, gN, by have := gt.2; have := gt.1.1; show t.2.1 ≤ w.2.1; omega⟩
    · refine ⟨by rw [mst_self, w1]; rfl, by rw [mst_ne _ _ (Or.inr (by omega)), eu2]; rfl, ?_, ?_, ?_, ?_, ?_⟩
      · rw [mst_ne _ _ (Or.inr (by omega)), eu 3 (by omega)]; exact hB.1.2.2.1
      · rw [mst_ne _ _ (Or.inr (by omega)), eu 4 (by omega)]; exact hB.1.2.2.2.1
      · rw [mst_ne _ _ (Or.inr (by omega)), eu 5 (by omega)]; exact hB.1.2.2.2.2.1
      · rw [mst_ne _ _ (Or.inr (by omega)), eu 6 (by omega)]; exact hB.1.2.2.2.2.2.1
      · rw [mst_ne _ _ (Or.inr (by omega)), eu 10 (by omega)]; exact hB.1.2.2.2.2.2.2
    · obtain ⟨q1, q2, q3, q4, q5, q6, q7, q8, q9⟩ := gB
      exact ⟨q1, q2, ⟨w5, w6⟩, q4, q5, q6, q7, Nat.le_refl _, q9⟩
theorem wa_l (hoa : o ≠ a) (hou : o < u ∨ u + 10 ≤ o) (hau : a < u ∨ u + 10 ≤ a) {I : MI} {t : Tk} {B : Bd} (hT : Tape I a n bt) (hk : CK I o n t) (hg : GK n t) (h6 : I o 6 = 0) (hB : CBd I u B (bO B)) (gB : GB B) (gN : GN B) (ht : bWt B = 0) : Ok (f_X2_readWave o a u I) (fun I' => LO o n u t I I' (pWav bt n (tok bt n t.2.1) B)) := by
  unfold f_X2_readWave pWav
  refine ok_pos (by rw [hB.1.2.2.2.2.1, ht]; rfl) (ok_wq (fun I2 hI2 => ?_))
  have f2 : ∀ b, b ≠ u → I2 b = I b := fun b hb => by rw [hI2, mst_row _ _ _ hb]
  have k2 := hk.fr (f2 o (by omega))
  refine ok_bind (ad_c hoa (hT.fr (f2 a (by omega))) hg.2.1 k2.1 k2.2.1 (by rw [f2 o (by omega)]; exact h6)) (fun I3 hI3 => ?_)
  obtain ⟨k3, z3, f3⟩ := hI3
  have gt := gk_tok (bt := bt) hg.2.1
  refine ok_bind (rn_c (lo := 1) (hi := 8) hoa (hT.fr ((f3 a (fun q => hoa q.symm)).trans (f2 a (by omega)))) k3 gt.1 z3 (by omega) (by omega)) (fun r hr => ?_)
  obtain ⟨fr, hr⟩ := hr
  have eu : ∀ j, j ≠ 5 → r.2 u j = I u j := fun j hj => by rw [fr u (by omega), f3 u (by omega), hI2, mst_ne _ _ (Or.inr hj)]
  have eu5 : r.2 u 5 = 1 := by rw [fr u (by omega), f3 u (by omega), hI2, mst_self]
  have ef : ∀ b, b ≠ o → b ≠ u → r.2 b = I b := fun b h1 h2 => by rw [fr b h1, f3 b h1, f2 b h2]
  refine ok_wq (fun I5 hI5 => ?_)
  have f5 : ∀ b, b ≠ u → I5 b = r.2 b := fun b hb => by rw [hI5, mst_row _ _ _ hb]
  cases hp : pN bt n 1 8 (tok bt n t.2.1) with
  | inl F =>
    rw [hp] at hr
    have h6' : ¬ I5 o 6 = 0 := by rw [f5 o (by omega), hr.1]; exact nI_ne0 hr.2.1 (by have := hr.2.2; omega)
    obtain ⟨v, hv⟩ := rn_n (a := a) (x := 1) (y := 60) h6'
    refine ok_bs hv (ok_wf (ok_some ⟨fun b h1 h2 => by rw [mst_row _ _ _ (by omega)]; dsimp only; rw [f5 b (by omega)]; exact ef b h1 (by omega), by rw [mst_ne _ _ (Or.inr (by omega))]; dsimp only; rw [hI5, mst_ne _ _ (Or.inr (by omega))]; exact eu 0 (by omega), ?_⟩))
    refine ⟨?_, hr.2⟩
    rw [mst_row _ _ _ (by omega)]
    dsimp only
    rw [f5 o (by omega)]
    exact hr.1
  | inr w =>
    rw [hp] at hr
    obtain ⟨w1, w2, w3, w4, w5, w6, w7⟩ := hr
    refine ok_bind (rn_c (lo := 1) (hi := 60) (t := w.2) hoa (hT.fr (by rw [f5 a (by omega)]; exact ef a (fun q => hoa q.symm) (by omega))) (w2.fr (f5 o (by omega))) w4 (by rw [f5 o (by omega)]; exact w3) (by omega) (by omega)) (fun s hs => ?_)
    obtain ⟨fs, hs⟩ := hs
    have su : ∀ j, j ≠ 5 → j ≠ 3 → s.2 u j = I u j := fun j h1 h2 => by rw [fs u (by omega), hI5, mst_ne _ _ (Or.inr h2)]; exact eu j h1
    have su5 : s.2 u 5 = 1 := by rw [fs u (by omega), hI5, mst_ne _ _ (Or.inr (by omega))]; exact eu5
    have su3 : s.2 u 3 = nI w.1 := by rw [fs u (by omega), hI5, mst_self]; exact w1
    have sf : ∀ b, b ≠ o → b ≠ u → s.2 b = I b := fun b h1 h2 => by rw [fs b h1, f5 b h2]; exact ef b h1 h2
    refine ok_wf (ok_some ⟨fun b h1 h2 => by rw [mst_row _ _ _ (by omega)]; exact sf b h1 (by omega), by rw [mst_ne _ _ (Or.inr (by omega))]; exact su 0 (by omega) (by omega), ?_⟩)
    show Sum.elim _ _ (pB (pN bt n 1 60 w.2) (fun y => .inr (y.2, bsWav B w.1 y.1)))
    cases hp2 : pN bt n 1 60 w.2 with
    | inl F =>
      rw [hp2] at hs
      refine ⟨?_, hs.2⟩
      rw [mst_row _ _ _ (by omega)]
      exact hs.1
    | inr y =>
      rw [hp2] at hs
      obtain ⟨y1, y2, y3, y4, y5, y6, y7⟩ := hs
      refine ⟨y2.fr (mst_row _ _ _ (by omega)), by rw [mst_row _ _ _ (by omega)]; exact y3, hB.fi (fun r h1 h2 => by rw [mst_row _ _ _ (by omega)]; exact sf _ (by omega) (by omega)) rfl rfl ?_, y4, ?_, gN, by have := gt.2; have := gt.1.1; have := w4.1; show t.2.1 ≤ y.2.1; omega⟩
      · refine ⟨?_, ?_, ?_, ?_, ?_, ?_, ?_⟩
        · rw [mst_ne _ _ (Or.inr (by omega)), su 1 (by omega) (by omega)]; exact hB.1.1
        · rw [mst_ne _ _ (Or.inr (by omega)), su 2 (by omega) (by omega)]; exact hB.1.2.1
        · rw [mst_ne _ _ (Or.inr (by omega)), su3]; rfl
        · rw [mst_self, y1]; rfl
        · rw [mst_ne _ _ (Or.inr (by omega)), su5]; rfl
        · rw [mst_ne _ _ (Or.inr (by omega)), su 6 (by omega) (by omega)]; exact hB.1.2.2.2.2.2.1
        · rw [mst_ne _ _ (Or.inr (by omega)), su 10 (by omega) (by omega)]; exact hB.1.2.2.2.2.2.2
      · obtain ⟨q1, q2, q3, q4, q5, q6, q7, q8, q9⟩ := gB
        exact ⟨q1, q2, q3, ⟨w5, w6⟩, ⟨y5, y6⟩, q6, q7, q8, Nat.le_refl _⟩
theorem it_l (hoa : o ≠ a) (hou : o < u ∨ u + 10 ≤ o) (hau : a < u ∨ u + 10 ≤ a) {I : MI} {t : Tk} {B : Bd} (hT : Tape I a n bt) (hk : CK I o n t) (hg : GK n t) (h6 : I o 6 = 0) (hB : CBd I u B (bO B)) (gB : GB B) (gN : GN B) (ht : bI B < 10) : Ok (f_X2_readItem o a u I) (fun I' => LO o n u t I I' (pItm bt n (tok bt n t.2.1) B)) := by
  unfold f_X2_readItem pItm
  refine ok_pos (by rw [hB.1.2.2.2.2.2.1]; exact nI_lt (b := 10) ht (by omega)) (ok_bind (ad_c hoa hT hg.2.1 hk.1 hk.2.1 h6) (fun I2 hI2 => ?_))
  obtain ⟨k2, z2, f2⟩ := hI2
  have gt := gk_tok (bt := bt) hg.2.1
  refine ok_bind (nn_c (B := B) hoa hou (hT.fr (f2 a (fun q => hoa q.symm))) k2 gt.1 z2 (hB.fr (fun r hr => f2 _ (by omega))) gB) (fun r hr => ?_)
  obtain ⟨fr, hr⟩ := hr
  have er : ∀ b, b ≠ o → r.2 b = I b := fun b hb => (fr b hb).trans (f2 b hb)
  -- the rest once a fault stands
  have nop : ∀ {I1 : MI} {F : Nat} {x1 : Int32}, (∀ b, b ≠ o → I1 b = I b) → (I1 o 6 = nI F ∧ 0 < F ∧ F < 2 ^ 20) → Ok ((f_X2_readNumber o a 0 99 I1).bind fun r5 => (if (r5.2 o 6) = 0 then (f_X3_addItem u r.1 x1 r5.1 r5.2).bind fun r8 => some r8 else some r5.2).bind fun (p9 : MI) => some p9) (fun I' => (∀ b, b ≠ o → b < u ∨ u + 10 ≤ b → I' b = I b) ∧ I' u 0 = I u 0 ∧ I' o 6 = nI F ∧ 0 < F ∧ F < 2 ^ 20) := by
    intro I1 F x1 hf hF
    have h6' : ¬ I1 o 6 = 0 := by rw [hF.1]; exact nI_ne0 hF.2.1 (by have := hF.2.2; omega)
    obtain ⟨v, hv⟩ := rn_n (a := a) (x := 0) (y := 99) h6'
    exact ok_bs hv (ok_bs (it_n h6' rfl) (ok_some ⟨fun b h1 _ => hf b h1, by dsimp only; rw [hf u (by omega)], hF⟩))
  cases hp : pW bt n (tok bt n t.2.1) B with
  | inl F =>
    rw [hp] at hr
    have h6' : ¬ r.2 o 6 = 0 := by rw [hr.1]; exact nI_ne0 hr.2.1 (by have := hr.2.2; omega)
    obtain ⟨v, hv⟩ := rn_n (a := a) (x := 0) (y := 99) h6'
    exact ok_bs hv (nop er hr)
  | inr q =>
    rw [hp] at hr
    obtain ⟨q1, q2, q3, q4, q5, q6⟩ := hr
    refine ok_bind (rn_c (lo := 0) (hi := 99) (t := q.2) hoa (hT.fr (er a (fun q => hoa q.symm))) q2 q4 q3 (by omega) (by omega)) (fun s hs => ?_)
    obtain ⟨fs, hs⟩ := hs
    have es : ∀ b, b ≠ o → s.2 b = I b := fun b hb => (fs b hb).trans (er b hb)
    show Ok _ (fun I' => LO o n u t I I' (pB (pN bt n 0 99 q.2) (fun w => pB (pN bt n 0 99 w.2) (fun y => .inr (y.2, bsItm B q.1 w.1 y.1)))))
    cases hp1 : pN bt n 0 99 q.2 with
    | inl F =>
      rw [hp1] at hs
      exact nop es hs
    | inr w =>
      rw [hp1] at hs
      obtain ⟨w1, w2, w3, w4, w5, w6, w7⟩ := hs
      refine ok_bind (rn_c (lo := 0) (hi := 99) (t := w.2) hoa (hT.fr (es a (fun q => hoa q.symm))) w2 w4 w3 (by omega) (by omega)) (fun z hz => ?_)
      obtain ⟨fz, hz⟩ := hz
      have ez : ∀ b, b ≠ o → z.2 b = I b := fun b hb => (fz b hb).trans (es b hb)
      show Ok _ (fun I' => LO o n u t I I' (pB (pN bt n 0 99 w.2) (fun y => .inr (y.2, bsItm B q.1 w.1 y.1))))
      cases hp2 : pN bt n 0 99 w.2 with
      | inl F =>
        rw [hp2] at hz
        have h6' : ¬ z.2 o 6 = 0 := by rw [hz.1]; exact nI_ne0 hz.2.1 (by have := hz.2.2; omega)
        exact ok_bs (it_n h6' rfl) (ok_some ⟨fun b h1 _ => ez b h1, by rw [ez u (by omega)], hz⟩)
      | inr y =>
        rw [hp2] at hz
        obtain ⟨y1, y2, y3, y4, y5, y6, y7⟩ := hz
        have hI6 : z.2 u 6 = nI (bI B) := by rw [ez u (by omega)]; exact hB.1.2.2.2.2.2.1
        rw [q1, w1, y1]
        have hadd : f_X3_addItem u (nI q.1) (nI w.1) (nI y.1) z.2 = some (mst (mst (mst (mst z.2 (u + 1) (bI B) (nI q.1)) (u + 2) (bI B) (nI w.1)) (u + 3) (bI B) (nI y.1)) u 6 (nI (bI B + 1))) := by
          unfold f_X3_addItem
          refine bnd_s (it_p (by rw [hI6]; exact nI_lt (b := 10) ht (by omega)) (bnd_s (wr_k (bI B) hI6 ht (by omega)) (bnd_s (wr_k (bI B) (by rw [mst_row _ _ _ (by omega)]; exact hI6) ht (by omega)) (bnd_s (wr_k (bI B) (by rw [mst_row _ _ _ (by omega), mst_row _ _ _ (by omega)]; exact hI6) ht (by omega)) (bnd_s rfl ?_))))) rfl
          rw [mst_row _ _ _ (by omega), mst_row _ _ _ (by omega), mst_row _ _ _ (by omega), hI6, nI_1]
        refine ok_bs (it_p y3 (bnd_s hadd rfl)) (ok_some ?_)
        generalize hM : mst (mst (mst (mst z.2 (u + 1) (bI B) (nI q.1)) (u + 2) (bI B) (nI w.1)) (u + 3) (bI B) (nI y.1)) u 6 (nI (bI B + 1)) = M
        have mo : ∀ b, b ≠ u → b ≠ u + 1 → b ≠ u + 2 → b ≠ u + 3 → M b = z.2 b := fun b h0 h1 h2 h3 => by rw [← hM, mst_row _ _ _ h0, mst_row _ _ _ h3, mst_row _ _ _ h2, mst_row _ _ _ h1]
        have m0 : ∀ j, j ≠ 6 → M u j = I u j := fun j hj => by rw [← hM, mst_ne _ _ (Or.inr hj), mst_row _ _ _ (by omega), mst_row _ _ _ (by omega), mst_row _ _ _ (by omega), ez u (by omega)]
        have m6 : M u 6 = nI (bI B + 1) := by rw [← hM, mst_self]
        have m1 : M (u + 1) = pu (I (u + 1)) (bI B) (nI q.1) := by rw [← hM, mst_row _ _ _ (by omega), mst_row _ _ _ (by omega), mst_row _ _ _ (by omega), ms_r, ez _ (by omega)]
        have m2 : M (u + 2) = pu (I (u + 2)) (bI B) (nI w.1) := by rw [← hM, mst_row _ _ _ (by omega), mst_row _ _ _ (by omega), ms_r, mst_row _ _ _ (by omega), ez _ (by omega)]
        have m3 : M (u + 3) = pu (I (u + 3)) (bI B) (nI y.1) := by rw [← hM, mst_row _ _ _ (by omega), ms_r, mst_row _ _ _ (by omega), mst_row _ _ _ (by omega), ez _ (by omega)]
        have mr : ∀ r, 4 ≤ r → r < 10 → M (u + r) = I (u + r) := fun r h1 h2 => by rw [mo _ (by omega) (by omega) (by omega) (by omega), ez _ (by omega)]
        refine ⟨fun b h1 h2 => by rw [mo b (by omega) (by omega) (by omega) (by omega)]; exact ez b h1, m0 0 (by omega), y2.fr (mo o (by omega) (by omega) (by omega) (by omega)), by rw [mo o (by omega) (by omega) (by omega) (by omega)]; exact y3, ?_, y4, ?_, ?_, by have := gt.2; have := gt.1.1; have := q4.1; have := w4.1; show t.2.1 ≤ y.2.1; omega⟩
        · obtain ⟨⟨c1, c2, c3, c4, c5, c6, c7⟩, d1, d2, d3, d4, E, d5, d6⟩ := hB
          refine ⟨⟨by rw [m0 1 (by omega)]; exact c1, by rw [m0 2 (by omega)]; exact c2, by rw [m0 3 (by omega)]; exact c3, by rw [m0 4 (by omega)]; exact c4, by rw [m0 5 (by omega)]; exact c5, m6, by rw [m0 10 (by omega)]; exact c7⟩, fun i hi => ?_, fun p hp => by rw [mr 4 (by omega) (by omega), mr 5 (by omega) (by omega)]; exact d2 p hp, fun c hc => by rw [mr 6 (by omega) (by omega)]; exact d3 c hc, fun p hp => by rw [mr 7 (by omega) (by omega), mr 8 (by omega) (by omega)]; exact d4 p hp, E, d5, fun e he => by rw [mr 9 (by omega) (by omega)]; exact d6 e he⟩
          have hi' : i < bI B + 1 := hi
          rw [m1, m2, m3]
          show pu (I (u + 1)) (bI B) (nI q.1) i = nI (pu (bNm B) (bI B) q.1 i) ∧ pu (I (u + 2)) (bI B) (nI w.1) i = nI (pu (bP B) (bI B) w.1 i) ∧ pu (I (u + 3)) (bI B) (nI y.1) i = nI (pu (bS B) (bI B) y.1 i)
          by_cases e : i = bI B
          · rw [e, pu_s, pu_s, pu_s, pu_s, pu_s, pu_s]
            exact ⟨rfl, rfl, rfl⟩
          · rw [pu_n e, pu_n e, pu_n e, pu_n e, pu_n e, pu_n e]
            exact d1 i (by omega)
        · obtain ⟨p1, p2, p3, p4, p5, p6, p7, p8, p9⟩ := gB
          refine ⟨by show bI B + 1 ≤ 10; omega, p2, p3, p4, p5, fun i hi => ?_, p7, p8, p9⟩
          have hi' : i < bI B + 1 := hi
          show pu (bP B) (bI B) w.1 i ≤ 99 ∧ pu (bS B) (bI B) y.1 i ≤ 99 ∧ pu (bNm B) (bI B) q.1 i < 2 ^ 30
          by_cases e : i = bI B
          · rw [e, pu_s, pu_s, pu_s]
            exact ⟨w6, y6, q5⟩
          · rw [pu_n e, pu_n e, pu_n e]
            exact p6 i (by omega)
        · refine ⟨fun c hc => ⟨(gN.1 c hc).1, fun h => (gN.1 c hc).2 ?_⟩, gN.2⟩
          rcases h with h | h
          · exact Or.inl h
          · exact Or.inr (by have h' : bI B + 1 ≤ c % 10 := h
                             omega)
end LnC
