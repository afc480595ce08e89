/-! numbers and names of a text -/
/-- (told holes, told wave, holes, orders of a wave, units of a wave, items, orders), items' names, places, stocks, orders' names, dues, needs -/
abbrev Bd : Type := (Nat × Nat × Nat × Nat × Nat × Nat × Nat) × (Nat → Nat) × (Nat → Nat) × (Nat → Nat) × (Nat → Nat) × (Nat → Nat) × (Nat → Nat)
def bHt (B : Bd) : Nat := B.1.1
def bWt (B : Bd) : Nat := B.1.2.1
def bH (B : Bd) : Nat := B.1.2.2.1
def bW (B : Bd) : Nat := B.1.2.2.2.1
def bU (B : Bd) : Nat := B.1.2.2.2.2.1
def bI (B : Bd) : Nat := B.1.2.2.2.2.2.1
def bO (B : Bd) : Nat := B.1.2.2.2.2.2.2
def bNm (B : Bd) : Nat → Nat := B.2.1
def bP (B : Bd) : Nat → Nat := B.2.2.1
def bS (B : Bd) : Nat → Nat := B.2.2.2.1
def bQ (B : Bd) : Nat → Nat := B.2.2.2.2.1
def bD (B : Bd) : Nat → Nat := B.2.2.2.2.2.1
def bN (B : Bd) : Nat → Nat := B.2.2.2.2.2.2
def GB (B : Bd) : Prop := bI B ≤ 10 ∧ bO B ≤ 16 ∧ (1 ≤ bH B ∧ bH B ≤ 8) ∧ (1 ≤ bW B ∧ bW B ≤ 8) ∧ (1 ≤ bU B ∧ bU B ≤ 60) ∧ (∀ i, i < bI B → bP B i ≤ 99 ∧ bS B i ≤ 99 ∧ bNm B i < 2 ^ 30) ∧ (∀ o, o < bO B → bD B o ≤ 99 ∧ bQ B o < 2 ^ 30) ∧ bHt B ≤ 1 ∧ bWt B ≤ 1
/-- orders by earliness, the first k of them -/
def EO (D E : Nat → Nat) (k : Nat) : Prop := (∀ e, e < k → E e < k) ∧ (∀ e e', e < e' → e' < k → D (E e) < D (E e') ∨ D (E e) = D (E e') ∧ E e < E e') ∧ ∀ o, o < k → ∃ e, e < k ∧ E e = o
/-- the class's text in the making, with k orders; no needs beyond -/
def CBd (I : MI) (u : Nat) (B : Bd) (k : Nat) : Prop := (I u 1 = nI (bH B) ∧ I u 2 = nI (bHt B) ∧ I u 3 = nI (bW B) ∧ I u 4 = nI (bU B) ∧ I u 5 = nI (bWt B) ∧ I u 6 = nI (bI B) ∧ I u 10 = nI k) ∧ (∀ i, i < bI B → I (u + 1) i = nI (bNm B i) ∧ I (u + 2) i = nI (bP B i) ∧ I (u + 3) i = nI (bS B i)) ∧ (∀ o, o < k → I (u + 4) o = nI (bQ B o) ∧ I (u + 5) o = nI (bD B o)) ∧ (∀ c, c < 160 → I (u + 6) c = nI (bN B c)) ∧ (∀ o, o < 16 → I (u + 7) o = nI (sm (bN B) (10 * o) 10) ∧ I (u + 8) o = nI (bs (fun i => decide (0 < bN B (10 * o + i))) 10)) ∧ ∃ E, EO (bD B) E k ∧ ∀ e, e < k → I (u + 9) e = nI (E e)
theorem CBd.fr {I I' : MI} {u k : Nat} {B : Bd} (h : CBd I u B k) (e : ∀ r, r < 10 → I' (u + r) = I (u + r)) : CBd I' u B k := by
  have e0 := e 0 (by omega)
  rw [Nat.add_zero] at e0
  unfold CBd at *
  rw [e0, e 1 (by omega), e 2 (by omega), e 3 (by omega), e 4 (by omega), e 5 (by omega), e 6 (by omega), e 7 (by omega), e 8 (by omega), e 9 (by omega)]
  exact h
/-- the reference's text in the making -/
def MBd (K : MI) (J : MJ) (m : Nat) (B : Bd) : Prop := (K (m + 2) 1 = nI (bI B) ∧ K (m + 3) 1 = nI (bO B) ∧ K (m + 4) 1 = nI (bH B) ∧ K (m + 5) 1 = nI (bW B) ∧ K (m + 6) 1 = nI (bU B) ∧ K m 24 = nI (bHt B) ∧ K m 25 = nI (bWt B) ∧ K m 12 = 1) ∧ (∀ i, i < bI B → J (m + 7) (10 + i) = lN (bNm B i) ∧ K (m + 8) (10 + i) = nI (bP B i) ∧ K (m + 9) (10 + i) = nI (bS B i)) ∧ (∀ o, o < bO B → J (m + 10) (16 + o) = lN (bQ B o) ∧ K (m + 11) (16 + o) = nI (bD B o)) ∧ ∀ c, c < 160 → K (m + 12) (160 + c) = nI (bN B c)
theorem MBd.fr {K K' : MI} {J J' : MJ} {m : Nat} {B : Bd} (h : MBd K J m B) (e : ∀ r, 2 ≤ r → r ≤ 12 → K' (m + r) = K (m + r)) (e0 : K' m 24 = K m 24 ∧ K' m 25 = K m 25 ∧ K' m 12 = K m 12) (f : J' (m + 7) = J (m + 7) ∧ J' (m + 10) = J (m + 10)) : MBd K' J' m B := by
  unfold MBd at *
  rw [e0.1, e0.2.1, e0.2.2, f.1, f.2, e 2 (by omega) (by omega), e 3 (by omega) (by omega), e 4 (by omega) (by omega), e 5 (by omega) (by omega), e 6 (by omega) (by omega), e 8 (by omega) (by omega), e 9 (by omega) (by omega), e 11 (by omega) (by omega), e 12 (by omega) (by omega)]
  exact h
def isN (t : Tk) : Bool := decide (t.2.2.1 = 1) && decide (t.2.2.2 ≠ 8892595) && decide (t.2.2.2 ≠ 755397) && decide (t.2.2.2 ≠ 315565) && decide (t.2.2.2 ≠ 16322738)
/-- the place of a name: n none -/
def fnd (g : Nat → Nat) (v n : Nat) : Nat := nE (fun i => decide (g i = v)) n 0
theorem fnd_s {g : Nat → Nat} {v n : Nat} : fnd g v n ≤ n ∧ (fnd g v n < n → g (fnd g v n) = v) ∧ ∀ i, i < fnd g v n → g i ≠ v := by
  obtain ⟨_, h2, h3, h4⟩ := nE_s (p := fun i => decide (g i = v)) n 0
  unfold fnd
  refine ⟨by omega, fun h => ?_, fun i hi => ?_⟩
  · have := h3 (by omega)
    rw [decide_eq_true_eq] at this
    exact this
  · have := h4 i (by omega) hi
    rw [decide_eq_false_iff_not] at this
    exact this
def pN (bt : Nat → Nat) (n lo hi : Nat) (t : Tk) : Nat ⊕ (Nat × Tk) := if t.2.2.1 = 2 then (if t.2.2.2 < lo ∨ hi < t.2.2.2 then .inl (8 * t.1 + 4) else .inr (t.2.2.2, tok bt n t.2.1)) else .inl (8 * t.1 + 1)
def pW (bt : Nat → Nat) (n : Nat) (t : Tk) (B : Bd) : Nat ⊕ (Nat × Tk) := if isN t then (if fnd (bNm B) t.2.2.2 (bI B) < bI B ∨ fnd (bQ B) t.2.2.2 (bO B) < bO B then .inl (8 * t.1 + 2) else .inr (t.2.2.2, tok bt n t.2.1)) else .inl (8 * t.1 + 1)
/-- a token that can be -/
def GK (n : Nat) (t : Tk) : Prop := t.1 ≤ t.2.1 ∧ t.2.1 ≤ n ∧ t.2.2.1 ≤ 4 ∧ t.2.2.2 < 2 ^ 30 ∧ (t.2.2.1 = 2 → t.2.2.2 ≤ 99) ∧ (t.2.2.1 ≠ 0 → t.1 < t.2.1) ∧ (t.2.2.1 = 1 → 0 < t.2.2.2)
theorem gk_tok {bt : Nat → Nat} {n p : Nat} (hp : p ≤ n) : GK n (tok bt n p) ∧ p ≤ (tok bt n p).1 := by
  obtain ⟨h1, h2, h3, h4, h5⟩ := tok_s (bt := bt) hp
  obtain ⟨v1, v2, v3⟩ := tok_v (bt := bt) hp
  exact ⟨⟨h2, h3, h5, v1, v2, h4, v3⟩, h1⟩
section Num
variable {o a n u : Nat} {bt : Nat → Nat}
theorem fa_c {I : MI} {t : Tk} {k : Nat} (hk : CK I o n t) (h6 : I o 6 = 0) : f_X2_fail o a (nI k) I = some (mst I o 6 (nI (8 * t.1 + k))) := by
  unfold f_X2_fail
  refine bnd_s (it_p h6 (bnd_s rfl rfl)) ?_
  rw [hk.2.2.2.1, show (8 : Int32) = nI 8 from rfl, nI_mul, nI_add]
theorem fa_n {I : MI} {x : Int32} (h6 : ¬ I o 6 = 0) : f_X2_fail o a x I = some I := by
  unfold f_X2_fail
  exact bnd_s (it_n h6 rfl) rfl
theorem ad_n {I : MI} (h6 : ¬ I o 6 = 0) : f_X2_advance o a I = some I := by
  unfold f_X2_advance
  exact it_n h6 rfl
/-- the fault stands: nothing more is done -/
theorem rn_n {I : MI} {x y : Int32} (h6 : ¬ I o 6 = 0) : ∃ v, f_X2_readNumber o a x y I = some (v, I) := by
  unfold f_X2_readNumber
  refine ⟨I o 5, bnd_s (a := I) ?_ (bnd_s (ad_n h6) rfl)⟩
  by_cases h1 : I o 3 = 2
  · refine it_p h1 ?_
    by_cases h2 : I o 5 < x
    · exact it_p h2 (bnd_s (fa_n h6) rfl)
    · refine it_n h2 ?_
      by_cases h3 : y < I o 5
      · exact it_p h3 (bnd_s (fa_n h6) rfl)
      · exact it_n h3 rfl
  · exact it_n h1 (bnd_s (fa_n h6) rfl)
theorem rc_n {I : MI} (h6 : ¬ I o 6 = 0) : f_X2_readClose o a I = some I := by
  unfold f_X2_readClose
  refine bnd_s (a := I) ?_ (bnd_s (ad_n h6) rfl)
  by_cases h1 : I o 3 = 3
  · exact it_p h1 rfl
  · exact it_n h1 (bnd_s (fa_n h6) rfl)
/-- behind a fault of this kind -/
theorem fl_6 {I : MI} {F : Nat} (h0 : 0 < F) (h1 : F < 2 ^ 31) : ¬ mst I o 6 (nI F) o 6 = 0 := by
  rw [mst_self]
  exact nI_ne0 h0 h1
theorem rn_c (hoa : o ≠ a) {I : MI} {t : Tk} {lo hi : Nat} (hT : Tape I a n bt) (hk : CK I o n t) (hg : GK n t) (h6 : I o 6 = 0) (hh : hi ≤ 99) (hl : lo ≤ hi) : Ok (f_X2_readNumber o a (nI lo) (nI hi) I) (fun r => (∀ b, b ≠ o → r.2 b = I b) ∧ Sum.elim (fun F => r.2 o 6 = nI F ∧ 0 < F ∧ F < 2 ^ 20) (fun w => r.1 = nI w.1 ∧ CK r.2 o n w.2 ∧ r.2 o 6 = 0 ∧ GK n w.2 ∧ lo ≤ w.1 ∧ w.1 ≤ hi ∧ t.2.1 ≤ w.2.1) (pN bt n lo hi t)) := by
  have h600 := hT.1
  obtain ⟨g1, g2, g3, g4, g5, g6, g7⟩ := hg
  obtain ⟨k1, k2, k3, k4, k5⟩ := id hk
  have fault : ∀ {k : Nat}, 0 < k → k < 9 → Ok ((f_X2_fail o a (nI k) I).bind fun r4 => some r4) (fun p8 : MI => p8 = mst I o 6 (nI (8 * t.1 + k))) := fun _ _ => ok_bs (fa_c hk h6) (ok_some rfl)
  have endf : ∀ {k : Nat}, 0 < k → k < 9 → Ok ((f_X2_advance o a (mst I o 6 (nI (8 * t.1 + k)))).bind fun r9 => some ((mst I o 6 (nI (8 * t.1 + k)) o 5, r9))) (fun r => (∀ b, b ≠ o → r.2 b = I b) ∧ r.2 o 6 = nI (8 * t.1 + k) ∧ 0 < 8 * t.1 + k ∧ 8 * t.1 + k < 2 ^ 20) := fun h1 h2 => ok_bs (ad_n (fl_6 (by omega) (by omega))) (ok_some ⟨fun b hb => mst_row _ _ _ hb, mst_self _ _ _ _, by omega, by omega⟩)
  unfold f_X2_readNumber pN
  by_cases c1 : t.2.2.1 = 2
  · rw [if_pos c1]
    have h99 := g5 c1
    have r1 : I o 3 = 2 := by rw [k3, c1]; rfl
    by_cases c2 : t.2.2.2 < lo
    · rw [if_pos (Or.inl c2)]
      exact ok_bind (ok_pos r1 (ok_pos (by rw [k5]; exact nI_lt c2 (by omega)) (fault (k := 4) (by omega) (by omega)))) (fun p hp => by subst hp; exact endf (k := 4) (by omega) (by omega))
    · have r2 : ¬ I o 5 < nI lo := by rw [k5]; exact nI_nlt (by omega) (by omega)
      by_cases c3 : hi < t.2.2.2
      · rw [if_pos (Or.inr c3)]
        exact ok_bind (ok_pos r1 (ok_neg r2 (ok_pos (by rw [k5]; exact nI_lt c3 (by omega)) (fault (k := 4) (by omega) (by omega))))) (fun p hp => by subst hp; exact endf (k := 4) (by omega) (by omega))
      · rw [if_neg (show ¬ (t.2.2.2 < lo ∨ hi < t.2.2.2) by omega)]
        refine ok_bs (it_p r1 (it_n r2 (it_n (by rw [k5]; exact nI_nlt (by omega) (by omega)) rfl))) (ok_bind (ad_c hoa hT g2 k1 k2 h6) (fun I' hI' => ok_some ⟨hI'.2.2, ?_⟩))
        have gt := gk_tok (bt := bt) g2
        exact ⟨k5, hI'.1, hI'.2.1, gt.1, by show lo ≤ t.2.2.2; omega, by show t.2.2.2 ≤ hi; omega, gt.2⟩
  · rw [if_neg c1]
    exact ok_bind (ok_neg (fun q => c1 ((nI_eq (b := 2) (by omega) (by omega)).mp (k3.symm.trans q))) (fault (k := 1) (by omega) (by omega))) (fun p hp => by subst hp; exact endf (k := 1) (by omega) (by omega))
theorem rc_c (hoa : o ≠ a) {I : MI} {t : Tk} (hT : Tape I a n bt) (hk : CK I o n t) (hg : GK n t) (h6 : I o 6 = 0) : Ok (f_X2_readClose o a I) (fun I' => (∀ b, b ≠ o → I' b = I b) ∧ (t.2.2.1 ≠ 3 → I' o 6 = nI (8 * t.1 + 1)) ∧ (t.2.2.1 = 3 → CK I' o n (tok bt n t.2.1) ∧ I' o 6 = 0)) := by
  have h600 := hT.1
  obtain ⟨g1, g2, g3, g4, g5, g6, g7⟩ := hg
  obtain ⟨k1, k2, k3, k4, k5⟩ := id hk
  unfold f_X2_readClose
  by_cases c1 : t.2.2.1 = 3
  · refine ok_bs (it_p (by rw [k3, c1]; rfl) rfl) (ok_bind (ad_c hoa hT g2 k1 k2 h6) (fun I' hI' => ok_some ⟨hI'.2.2, fun q => absurd c1 q, fun _ => ⟨hI'.1, hI'.2.1⟩⟩))
  · refine ok_bs (it_n (fun q => c1 ((nI_eq (b := 3) (by omega) (by omega)).mp (k3.symm.trans q))) (bnd_s (fa_c (k := 1) hk h6) rfl)) (ok_bs (ad_n (fl_6 (by omega) (by omega))) (ok_some ⟨fun b hb => mst_row _ _ _ hb, fun _ => mst_self _ _ _ _, fun q => absurd q c1⟩))
theorem is_c {I : MI} {t : Tk} (hk : CK I o n t) (hg : GK n t) : f_X2_isName o a I = some (if isN t then 1 else 0) := by
  obtain ⟨g1, g2, g3, g4, g5, g6, g7⟩ := hg
  obtain ⟨k1, k2, k3, k4, k5⟩ := hk
  unfold f_X2_isName isN
  rw [k3, k5]
  have ne : ∀ v : Nat, v < 2 ^ 31 → (nI t.2.2.2 = nI v ↔ t.2.2.2 = v) := fun v hv => nI_eq (by omega) hv
  by_cases c0 : t.2.2.1 = 1
  · have r0 : nI t.2.2.1 = 1 := by rw [c0]; rfl
    by_cases c1 : t.2.2.2 = 8892595
    · exact bnd_s (it_p r0 (it_p ((ne 8892595 (by omega)).mpr c1) rfl)) (by simp [c1]; rfl)
    have n1 : ¬ nI t.2.2.2 = 8892595 := fun q => c1 ((ne 8892595 (by omega)).mp q)
    by_cases c2 : t.2.2.2 = 755397
    · exact bnd_s (it_p r0 (it_n n1 (it_p ((ne 755397 (by omega)).mpr c2) rfl))) (by simp [c2]; rfl)
    have n2 : ¬ nI t.2.2.2 = 755397 := fun q => c2 ((ne 755397 (by omega)).mp q)
    by_cases c3 : t.2.2.2 = 315565
    · exact bnd_s (it_p r0 (it_n n1 (it_n n2 (it_p ((ne 315565 (by omega)).mpr c3) rfl)))) (by simp [c3]; rfl)
    have n3 : ¬ nI t.2.2.2 = 315565 := fun q => c3 ((ne 315565 (by omega)).mp q)
    by_cases c4 : t.2.2.2 = 16322738
    · exact bnd_s (it_p r0 (it_n n1 (it_n n2 (it_n n3 (it_p ((ne 16322738 (by omega)).mpr c4) rfl))))) (by simp [c4]; rfl)
    have n4 : ¬ nI t.2.2.2 = 16322738 := fun q => c4 ((ne 16322738 (by omega)).mp q)
    exact bnd_s (it_p r0 (it_n n1 (it_n n2 (it_n n3 (it_n n4 rfl))))) (by simp [c0, c1, c2, c3, c4]; rfl)
  · exact bnd_s (it_n (fun q => c0 ((nI_eq (b := 1) (by omega) (by omega)).mp q)) rfl) (by simp [c0]; rfl)
theorem in_c {I : MI} {B : Bd} {k v : Nat} (hB : CBd I u B k) (gB : GB B) (hv : v < 2 ^ 30) : f_X3_itemNamed u (nI v) I = some (if fnd (bNm B) v (bI B) < bI B then nI (fnd (bNm B) v (bI B)) else -1) := by
  obtain ⟨f1, f2, f3⟩ := fnd_s (g := bNm B) (v := v) (n := bI B)
  generalize fnd (bNm B) v (bI B) = j at f1 f2 f3 ⊢
  have h10 := gB.1
  have rk : ∀ i, i < bI B → rd 10 (I (u + 1)) (nI i) = some (nI (bNm B i)) := fun i hi => rd_v i rfl (by omega) (by omega) (hB.2.1 i hi).1
  have st : ∀ i, i < j → b_X3_itemNamed_2 u (nI v) I (nI i) = some (.inl (nI (i + 1))) := by
    intro i hi
    have hn := (gB.2.2.2.2.2.1 i (by omega)).2.2
    refine it_p (by rw [hB.1.2.2.2.2.2.1]; exact nI_lt (by omega) (by omega)) (bnd_s (rk i (by omega)) (it_n (fun q => f3 i hi ((nI_eq (by omega) (by omega)).mp q)) ?_))
    rw [nI_1]
  unfold f_X3_itemNamed
  by_cases h : j < bI B
  · rw [if_pos h]
    refine bnd_s (a := .inl (nI j)) (lp_seq (fun i => nI i) j st (lp_done ?_)) rfl
    exact it_p (by rw [hB.1.2.2.2.2.2.1]; exact nI_lt h (by omega)) (bnd_s (rk j h) (it_p (by rw [f2 h]) rfl))
  · rw [if_neg h]
    refine bnd_s (a := .inr (nI j)) (lp_seq (fun i => nI i) j st (lp_done ?_)) rfl
    exact it_n (by rw [hB.1.2.2.2.2.2.1]; exact nI_nlt (by omega) (by omega)) rfl
theorem hn_c {I : MI} {B : Bd} {v : Nat} (hB : CBd I u B (bO B)) (gB : GB B) (hv : v < 2 ^ 30) : f_X3_hasName u (nI v) I = some (if fnd (bNm B) v (bI B) < bI B ∨ fnd (bQ B) v (bO B) < bO B then 1 else 0) := by
  have hin := in_c hB gB hv
  obtain ⟨f1, f2, f3⟩ := fnd_s (g := bQ B) (v := v) (n := bO B)
  generalize fnd (bQ B) v (bO B) = j at f1 f2 f3 ⊢
  have h10 := gB.1
  have h16 := gB.2.1
  have rk : ∀ i, i < bO B → rd 16 (I (u + 4)) (nI i) = some (nI (bQ B i)) := fun i hi => rd_v i rfl (by omega) (by omega) (hB.2.2.1 i hi).1
  have st : ∀ i, i < j → b_X3_hasName_2 u (nI v) I (nI i) = some (.inl (nI (i + 1))) := by
    intro i hi
    have hn := (gB.2.2.2.2.2.2.1 i (by omega)).2
    refine it_p (by rw [hB.1.2.2.2.2.2.2]; exact nI_lt (by omega) (by omega)) (bnd_s (rk i (by omega)) (it_n (fun q => f3 i hi ((nI_eq (by omega) (by omega)).mp q)) ?_))
    rw [nI_1]
  unfold f_X3_hasName
  by_cases h : j < bO B
  · rw [if_pos (Or.inr h)]
    refine bnd_s (a := .inl 1) (lp_seq (fun i => nI i) j st (lp_done ?_)) rfl
    exact it_p (by rw [hB.1.2.2.2.2.2.2]; exact nI_lt h (by omega)) (bnd_s (rk j h) (it_p (by rw [f2 h]) rfl))
  · refine bnd_s (a := .inr (nI j)) (lp_seq (fun i => nI i) j st (lp_done ?_)) ?_
    · exact it_n (by rw [hB.1.2.2.2.2.2.2]; exact nI_nlt (by omega) (by omega)) rfl
    · show (f_X3_itemNamed u (nI v) I).bind _ = _
      refine bnd_s hin ?_
      by_cases hi : fnd (bNm B) v (bI B) < bI B
      · rw [if_pos hi, if_pos (Or.inl hi)]
        exact bnd_s (it_n (ne_m1 (by omega) rfl) rfl) rfl
      · rw [if_neg hi, if_neg (show ¬ (fnd (bNm B) v (bI B) < bI B ∨ j < bO B) by omega)]
        exact bnd_s (it_p rfl rfl) rfl
theorem nn_c (hoa : o ≠ a) (hou : o < u ∨ u + 10 ≤ o) {I : MI} {t : Tk} {B : Bd} (hT : Tape I a n bt) (hk : CK I o n t) (hg : GK n t) (h6 : I o 6 = 0) (hB : CBd I u B (bO B)) (gB : GB B) : Ok (f_X2_readNewName o a u I) (fun r => (∀ b, b ≠ o → r.2 b = I b) ∧ Sum.elim (fun F => r.2 o 6 = nI F ∧ 0 < F ∧ F < 2 ^ 20) (fun w => r.1 = nI w.1 ∧ CK r.2 o n w.2 ∧ r.2 o 6 = 0 ∧ GK n w.2 ∧ w.1 < 2 ^ 30 ∧ t.2.1 ≤ w.2.1) (pW bt n t B)) := by
  have h600 := hT.1
  have his := is_c (a := a) hk hg
  obtain ⟨g1, g2, g3, g4, g5, g6, g7⟩ := hg
  obtain ⟨k1, k2, k3, k4, k5⟩ := id hk
  have hhn := hn_c hB gB g4
  rw [← k5] at hhn
  unfold f_X2_readNewName pW
  refine ok_bs his ?_
  by_cases c1 : isN t = true
  · rw [if_pos c1, if_pos c1]
    by_cases c2 : fnd (bNm B) t.2.2.2 (bI B) < bI B ∨ fnd (bQ B) t.2.2.2 (bO B) < bO B
    · rw [if_pos c2] at hhn ⊢
      refine ok_bs (it_n (by decide) (bnd_s hhn (it_n (by decide) (bnd_s (fa_c (k := 2) hk h6) rfl)))) (ok_bs (ad_n (fl_6 (by omega) (by omega))) (ok_some ⟨fun b hb => mst_row _ _ _ hb, mst_self _ _ _ _, by omega, by omega⟩))
    · rw [if_neg c2] at hhn ⊢
      refine ok_bs (it_n (by decide) (bnd_s hhn (it_p rfl rfl))) (ok_bind (ad_c hoa hT g2 k1 k2 h6) (fun I' hI' => ok_some ⟨hI'.2.2, ?_⟩))
      have gt := gk_tok (bt := bt) g2
      exact ⟨k5, hI'.1, hI'.2.1, gt.1, g4, gt.2⟩
  · rw [if_neg c1, if_neg c1]
    refine ok_bs (it_p rfl (bnd_s (fa_c (k := 1) hk h6) rfl)) (ok_bs (ad_n (fl_6 (by omega) (by omega))) (ok_some ⟨fun b hb => mst_row _ _ _ hb, mst_self _ _ _ _, by omega, by omega⟩))
end Num
