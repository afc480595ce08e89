/-! a unit comes -/
theorem ff_le {g : Nat → Nat} {n : Nat} : ff g n ≤ n := by
  induction n with
  | zero => exact Nat.le_refl _
  | succ n ih =>
    rw [ff]
    split
    · split <;> omega
    · omega
theorem ff_0 {g : Nat → Nat} {n : Nat} : ff g n = 0 ↔ ∀ h, h < n → g h ≠ 0 := by
  induction n with
  | zero => exact ⟨fun _ h hh => by omega, fun _ => rfl⟩
  | succ n ih =>
    rw [ff]
    constructor
    · intro q h hh
      by_cases q0 : ff g n = 0
      · rw [if_pos q0] at q
        by_cases e : h = n
        · subst e
          intro q1
          rw [if_pos q1] at q
          omega
        · exact ih.mp q0 h (by omega)
      · rw [if_neg q0] at q
        exact absurd q q0
    · intro q
      have q0 : ff g n = 0 := ih.mpr (fun h hh => q h (by omega))
      rw [if_pos q0, if_neg (q n (by omega))]
theorem ff_s {g : Nat → Nat} {n h : Nat} (e : ff g n = h + 1) : h < n ∧ g h = 0 ∧ ∀ j, j < h → g j ≠ 0 := by
  induction n with
  | zero => cases e
  | succ n ih =>
    rw [ff] at e
    by_cases q0 : ff g n = 0
    · rw [if_pos q0] at e
      by_cases q1 : g n = 0
      · rw [if_pos q1] at e
        obtain rfl : n = h := by omega
        exact ⟨by omega, q1, ff_0.mp q0⟩
      · rw [if_neg q1] at e
        cases e
    · rw [if_neg q0] at e
      obtain ⟨a, b, c⟩ := ih e
      exact ⟨by omega, b, c⟩
theorem fh_c {ni : Nat} {I : MI} {f t : Nat} {T : Tx} {A : Fl} (hh : I t 1 = nI (tiH T)) (h8 : tiH T ≤ 8) (hO : ∀ h, h < 8 → I (f + 4) h = nI (flO A h) - 1) (h16 : ∀ h, h < 8 → flO A h ≤ 16) : f_X0_firstFreeHole f t I = some (nI (ff (flO A) (tiH T)) - 1) := by
  unfold f_X0_firstFreeHole
  have step : ∀ k, k < tiH T → flO A k ≠ 0 → b_X0_firstFreeHole_2 f t I (nI k) = some (.inl (nI (k + 1))) := by
    intro k hk h0
    refine it_p (by rw [hh]; exact nI_lt hk (by omega)) (bnd_s (rd_v k rfl (by omega) (by omega) (hO k (by omega))) ?_)
    refine it_n (fun q => h0 ((m1_e (by have := h16 k (by omega); omega)).mp q)) ?_
    rw [nI_1]
  cases hf : ff (flO A) (tiH T) with
  | zero =>
    refine bnd_s (a := .inr (nI (tiH T))) (lp_fs (fun k => nI k) (tiH T) (fun k hk => step k hk (ff_0.mp hf k hk)) ?_) rfl
    exact it_n (by rw [hh]; exact nI_nlt (Nat.le_refl _) (by omega)) rfl
  | succ h =>
    obtain ⟨a, b, c⟩ := ff_s hf
    refine bnd_s (a := .inl (nI h)) (lp_fs (fun k => nI k) h (fun k hk => step k (by omega) (c k hk)) ?_) (by rw [nI_pred]; rfl)
    refine it_p (by rw [hh]; exact nI_lt a (by omega)) (bnd_s (rd_v h rfl (by omega) (by omega) (hO h (by omega))) ?_)
    exact it_p ((m1_e (by omega)).mpr b) rfl
theorem fh_m {m : Nat} {K : MI} {J : MJ} {T : Tx} {A : Fl} (hh : K (m + 4) 0 = nI (tiH T)) (h8 : tiH T ≤ 8) (hO : ∀ h, h < 8 → K (m + 13) (362 + h) = nI (flO A h) - 1) (h16 : ∀ h, h < 8 → flO A h ≤ 16) : f_X5_freeHole m J K = some (nI (ff (flO A) (tiH T)) - 1) := by
  unfold f_X5_freeHole
  have r0 : rd 2 (K (m + 4)) 0 = some (nI (tiH T)) := rd_v 0 rfl (by omega) (by omega) hh
  have step : ∀ k, k < tiH T → flO A k ≠ 0 → b_X5_freeHole_2 m K (nI k) = some (.inl (nI (k + 1))) := by
    intro k hk h0
    refine bnd_s r0 (it_p (nI_lt hk (by omega)) (bnd_s (rd_v (362 + k) (ci_a rfl k) (by omega) (by omega) (hO k (by omega))) ?_))
    refine it_n (fun q => h0 ((m1_l (by have := h16 k (by omega); omega)).mp q)) ?_
    rw [nI_1]
  cases hf : ff (flO A) (tiH T) with
  | zero =>
    refine bnd_s (a := .inr (nI (tiH T))) (lp_fs (fun k => nI k) (tiH T) (fun k hk => step k hk (ff_0.mp hf k hk)) ?_) rfl
    exact bnd_s r0 (it_n (nI_nlt (Nat.le_refl _) (by omega)) rfl)
  | succ h =>
    obtain ⟨a, b, c⟩ := ff_s hf
    refine bnd_s (a := .inl (nI h)) (lp_fs (fun k => nI k) h (fun k hk => step k (by omega) (c k hk)) ?_) (by rw [nI_pred]; rfl)
    refine bnd_s r0 (it_p (nI_lt a (by omega)) (bnd_s (rd_v (362 + h) (ci_a rfl h) (by omega) (by omega) (hO h (by omega))) ?_))
    exact it_p ((m1_l (by omega)).mpr b) rfl
def cnb (T : Tx) (A : Fl) (o : Nat) : Bool := decide (flW A o = 2) || decide (flW A o = 3) || decide (ff (flO A) (tiH T) ≠ 0)
theorem cnb_i {T : Tx} {A : Fl} {o : Nat} : cnb T A o = true ↔ cn T A o := by
  unfold cnb cn
  simp [or_assoc]
theorem cc_c {ni : Nat} {I : MI} {f t o : Nat} {T : Tx} {A : Fl} (hT : CT I t T) (hA : CG ni I f A) (h8 : tiH T ≤ 8) (h16 : ∀ h, h < 8 → flO A h ≤ 16) (ho : o < 16) (h4 : flW A o ≤ 4) : f_X0_canCome f t (nI o) I = some (if cnb T A o then 1 else 0) := by
  unfold f_X0_canCome cnb
  have r := rd_v (n := 16) o rfl ho (by omega) (hA.2.1 o ho)
  refine bnd_s r ?_
  by_cases h2 : flW A o = 2
  · refine bnd_s (it_p (by rw [h2]; rfl) rfl) ?_
    simp [h2, gb]
  · have n2 : ¬ nI (flW A o) = 2 := fun q => h2 ((nI_eq (b := 2) (by omega) (by omega)).mp q)
    by_cases h3 : flW A o = 3
    · refine bnd_s (it_n n2 (bnd_s r (it_p (by rw [h3]; rfl) rfl))) ?_
      simp [h3, gb]
    · have n3 : ¬ nI (flW A o) = 3 := fun q => h3 ((nI_eq (b := 3) (by omega) (by omega)).mp q)
      have hf := fh_c (ni := ni) hT.1.2.2.1 h8 hA.2.2.2.1 h16
      have hl := ff_le (g := flO A) (n := tiH T)
      by_cases h0 : ff (flO A) (tiH T) = 0
      · refine bnd_s (it_n n2 (bnd_s r (it_n n3 (bnd_s hf (it_p ((m1_e (by omega)).mpr h0) rfl))))) ?_
        simp [h2, h3, h0, gb]
      · refine bnd_s (it_n n2 (bnd_s r (it_n n3 (bnd_s hf (it_n (fun q => h0 ((m1_e (by omega)).mp q)) rfl))))) ?_
        simp [h2, h3, h0, gb]
theorem cc_m {ni : Nat} {K : MI} {J : MJ} {m o : Nat} {T : Tx} {A : Fl} (hT : MT K m T) (hA : MG ni (K (m + 13)) A) (h8 : tiH T ≤ 8) (h16 : ∀ h, h < 8 → flO A h ≤ 16) (ho : o < 16) (h4 : flW A o ≤ 4) : f_X5_canCome m (nI o) J K = some (if cnb T A o then 1 else 0) := by
  unfold f_X5_canCome cnb
  have r := rd_v (n := 2117) (i := 330 + nI o) (330 + o) (ci_a rfl o) (by omega) (by omega) (hA.2.1 o ho)
  refine bnd_s r ?_
  by_cases h2 : flW A o = 2
  · refine bnd_s (it_p (by rw [h2]; rfl) rfl) ?_
    simp [h2, gb]
  · have n2 : ¬ nI (flW A o) = 2 := fun q => h2 ((nI_eq (b := 2) (by omega) (by omega)).mp q)
    by_cases h3 : flW A o = 3
    · refine bnd_s (it_n n2 (bnd_s r (it_p (by rw [h3]; rfl) rfl))) ?_
      simp [h3, gb]
    · have n3 : ¬ nI (flW A o) = 3 := fun q => h3 ((nI_eq (b := 3) (by omega) (by omega)).mp q)
      have hf := fh_m (J := J) hT.1.2.2.1 h8 hA.2.2.2.1 h16
      have hl := ff_le (g := flO A) (n := tiH T)
      by_cases h0 : ff (flO A) (tiH T) = 0
      · refine bnd_s (it_n n2 (bnd_s r (it_n n3 (bnd_s hf (it_p ((m1_l (by omega)).mpr h0) rfl))))) ?_
        simp [h2, h3, h0, gb]
      · refine bnd_s (it_n n2 (bnd_s r (it_n n3 (bnd_s hf (it_n (fun q => h0 ((m1_l (by omega)).mp q)) rfl))))) ?_
        simp [h2, h3, h0, gb]
/-- an order takes the hole h - 1 -/
def tak (A : Fl) (o h : Nat) : Fl := setW (setH (setO A (h - 1) (o + 1)) o h) o 2
def com1 (T : Tx) (A : Fl) (o : Nat) : Fl := if flW A o = 1 then tak A o (ff (flO A) (tiH T)) else A
def com2 (T : Tx) (A : Fl) (c : Nat) : Fl := setA (com1 T A (c / 10)) c (flA A c + 1)
def lev (A : Fl) (o : Nat) : Fl := if flH A o = 0 then A else setH (setO A (flH A o - 1) 0) o 0
def whl (A : Fl) (o : Nat) : Fl := setC (setW A o 4) (flC A ++ [o])
def ful (T : Tx) (A : Fl) (c : Nat) : Bool := decide (tot T (c / 10) ≤ sm (flA (com2 T A c)) (10 * (c / 10)) 10)
def com (T : Tx) (A : Fl) (c : Nat) : Fl := if ful T A c then lev (whl (com2 T A c) (c / 10)) (c / 10) else com2 T A c
def frb (T : Tx) (A : Fl) (c : Nat) : Bool := ful T A c && decide (flH (com2 T A c) (c / 10) ≠ 0)
/-- what a unit's coming rests on -/
def Cm (T : Tx) (A : Fl) (c : Nat) : Prop := c < 160 ∧ cn T A (c / 10) ∧ (∀ o, o < 16 → flW A o ≤ 4 ∧ flH A o ≤ 8) ∧ (∀ h, h < 8 → flO A h ≤ 16) ∧ (∀ c, c < 160 → flA A c ≤ 9) ∧ (flC A).length < 16 ∧ tiH T ≤ 8 ∧ (∀ o, o < 16 → tot T o ≤ 54) ∧ (flB A).length ≤ 864
theorem com1_A {T : Tx} {A : Fl} {o : Nat} : flA (com1 T A o) = flA A ∧ flL (com1 T A o) = flL A ∧ flS (com1 T A o) = flS A ∧ flB (com1 T A o) = flB A ∧ flC (com1 T A o) = flC A ∧ flT (com1 T A o) = flT A ∧ flD (com1 T A o) = flD A := by
  unfold com1
  split
  · exact ⟨rfl, rfl, rfl, rfl, rfl, rfl, rfl⟩
  · exact ⟨rfl, rfl, rfl, rfl, rfl, rfl, rfl⟩
theorem com2_sm {T : Tx} {A : Fl} {c : Nat} (h : Cm T A c) : sm (flA (com2 T A c)) (10 * (c / 10)) 10 ≤ 100 := by
  refine Nat.le_trans (sm_le (b := 10) (fun i hi => ?_)) (by omega)
  have h1 := h.1
  have h2 := h.2.2.2.2.1
  show pu (flA (com1 T A (c / 10))) c (flA A c + 1) (10 * (c / 10) + i) ≤ 10
  rw [com1_A.1]
  unfold pu
  split
  · have := h2 c h1
    omega
  · have := h2 (10 * (c / 10) + i) (by omega)
    omega
theorem com1_H {T : Tx} {A : Fl} {o : Nat} (h8 : tiH T ≤ 8) (h : flH A o ≤ 8) : flH (com1 T A o) o ≤ 8 := by
  unfold com1
  split
  · show pu (flH A) o (ff (flO A) (tiH T)) o ≤ 8
    rw [pu_s]
    have := ff_le (g := flO A) (n := tiH T)
    omega
  · exact h
theorem dv10 : ∀ c, c < 160 → nI c / 10 = nI (c / 10) := by decide +kernel
theorem md10 : ∀ c, c < 160 → nI c - nI c / 10 * 10 = nI (c % 10) := by decide +kernel
/-- the class's come -/
theorem co_c {ni : Nat} {I : MI} {f t c : Nat} {T : Tx} {A : Fl} (hT : CT I t T) (hd : t + 10 ≤ f ∨ f + 10 ≤ t) (hA : CG ni I f A) (h : Cm T A c) : Ok (f_X0_come f t (nI c) I) (fun r => r.1 = (if frb T A c then 1 else 0) ∧ CG ni r.2 f (com T A c) ∧ r.2 (f + 9) = I (f + 9) ∧ r.2 f 12 = I f 12 ∧ Fo f I r.2) := by
  have hsm := com2_sm h
  obtain ⟨h1, h2, h3, h4, h5, h6, h7, h8, h9⟩ := h
  have ho : c / 10 < 16 := by omega
  have hw := (h3 _ ho).1
  have hfl := ff_le (g := flO A) (n := tiH T)
  unfold f_X0_come
  refine ok_bs (show f_X4_orderOfUnit (nI c) = some (nI (c / 10)) from congrArg some (dv10 c h1)) ?_
  refine ok_bs (rd_v (c / 10) rfl ho (by omega) (hA.2.1 _ ho)) ?_
  refine ok_bind (P := fun I1 => CG ni I1 f (com1 T A (c / 10)) ∧ I1 (f + 9) = I (f + 9) ∧ I1 f 12 = I f 12 ∧ Fo f I I1) ?_ (fun I1 hI1 => ?_)
  · unfold com1
    by_cases q : flW A (c / 10) = 1
    · rw [if_pos q]
      have hff : ff (flO A) (tiH T) ≠ 0 := by
        rcases h2 with e | e | e
        · omega
        · omega
        · exact e
      refine ok_pos (by rw [q]; rfl) ?_
      refine ok_bs (fh_c (ni := ni) hT.1.2.2.1 h7 hA.2.2.2.1 h4) ?_
      refine ok_bind (P := fun I1 => CG ni I1 f (tak A (c / 10) (ff (flO A) (tiH T))) ∧ I1 (f + 9) = I (f + 9) ∧ I1 f 12 = I f 12 ∧ Fo f I I1) ?_ (fun r hr => ok_some hr)
      unfold f_X0_takeHole
      refine ok_bind (P := fun I1 => CG ni I1 f (tak A (c / 10) (ff (flO A) (tiH T))) ∧ I1 (f + 9) = I (f + 9) ∧ I1 f 12 = I f 12 ∧ Fo f I I1) ?_ (fun r hr => ok_some hr)
      refine ok_neg (fun w => hff ((m1_e (by omega)).mp w)) ?_
      refine ok_wr (ff (flO A) (tiH T) - 1) (m1_p hff) (by omega) (by omega) (ok_wr (c / 10) rfl ho (by omega) (ok_wr (c / 10) rfl ho (by omega) (ok_some ⟨?_, ?_, ?_, ?_⟩)))
      · have e1 := hA.sO (k := ff (flO A) (tiH T) - 1) (v := c / 10 + 1)
        rw [nI_pred] at e1
        exact (e1.sH (k := c / 10) (v := ff (flO A) (tiH T))).sW
      · rw [mst_row _ _ _ (by omega), mst_row _ _ _ (by omega), mst_row _ _ _ (by omega)]
      · rw [mst_row _ _ _ (by omega), mst_row _ _ _ (by omega), mst_row _ _ _ (by omega)]
      · exact ((Fo.ms (by omega)).tr (Fo.ms (by omega))).tr (Fo.ms (by omega))
    · rw [if_neg q]
      exact ok_neg (fun w => q ((nI_eq (b := 1) (by omega) (by omega)).mp w)) (ok_some ⟨hA, rfl, rfl, Fo.rf⟩)
  · obtain ⟨g1, g2, g3, g4⟩ := hI1
    have eA : I1 (f + 5) c = nI (flA A c) := by rw [g1.2.2.2.2.1 c h1, com1_A.1]
    refine ok_bs (rd_v c rfl h1 (by omega) eA) ?_
    rw [nI_1]
    refine ok_wr c rfl h1 (by omega) ?_
    obtain ⟨I2, hI2⟩ : ∃ I2, I2 = mst I1 (f + 5) c (nI (flA A c + 1)) := ⟨_, rfl⟩
    rw [← hI2]
    have k1 : CG ni I2 f (com2 T A c) := by rw [hI2]; exact g1.sA
    have k2 : I2 (f + 9) = I (f + 9) := by rw [hI2, mst_row _ _ _ (by omega)]; exact g2
    have k3 : I2 f 12 = I f 12 := by rw [hI2, mst_row _ _ _ (by omega)]; exact g3
    have k4 : Fo f I I2 := by rw [hI2]; exact g4.tr (Fo.ms (by omega))
    refine ok_bs (so_s k1.2.2.2.2.1 ho) ?_
    have etot : I2 (t + 7) (c / 10) = nI (tot T (c / 10)) := by rw [k4 (t + 7) (by omega)]; exact hT.2.2.2.2.1 _ ho
    refine ok_bs (rd_v (c / 10) rfl ho (by omega) etot) ?_
    have ht := h8 _ ho
    by_cases q : tot T (c / 10) ≤ sm (flA (com2 T A c)) (10 * (c / 10)) 10
    · have e1 : ful T A c = true := decide_eq_true q
      refine ok_neg (nI_nlt q (by omega)) ?_
      refine ok_wr (c / 10) rfl ho (by omega) ?_
      have w1 : CG ni (mst I2 (f + 2) (c / 10) 4) f (setW (com2 T A c) (c / 10) 4) := k1.sW (v := 4)
      have w7 := w1.2.2.2.2.2.2.2.1
      have hlC : (flC (setW (com2 T A c) (c / 10) 4)).length = (flC A).length := by
        show (flC (com1 T A (c / 10))).length = _
        rw [com1_A.2.2.2.2.1]
      refine ok_bind (P := fun I3 => I3 = mst (mst (mst I2 (f + 2) (c / 10) 4) (f + 7) (flC A).length (nI (c / 10))) f 7 (nI ((flC A).length + 1))) ?_ (fun I3 hI3 => ?_)
      · refine ok_pos (by rw [w7, hlC]; exact nI_lt (b := 16) h6 (by omega)) ?_
        refine ok_wr (flC A).length (by rw [w7, hlC]) h6 (by omega) (ok_wf (ok_some ?_))
        rw [mst_row (a := f + 7) _ _ _ (show f ≠ f + 7 by omega), w7, hlC, nI_1]
      · have w2 : CG ni I3 f (whl (com2 T A c) (c / 10)) := by
          rw [hI3, ← hlC]
          exact w1.sC
        have u2 : I3 (f + 9) = I (f + 9) := by rw [hI3, mst_row _ _ _ (by omega), mst_row _ _ _ (by omega), mst_row _ _ _ (by omega)]; exact k2
        have u3 : I3 f 12 = I f 12 := by rw [hI3, mst_ne _ _ (Or.inr (by omega)), mst_ne _ _ (Or.inl (by omega)), mst_ne _ _ (Or.inl (by omega))]; exact k3
        have u4 : Fo f I I3 := by rw [hI3]; exact ((k4.tr (Fo.ms (by omega))).tr (Fo.ms (by omega))).tr Fo.m0
        have hHe : flH (whl (com2 T A c) (c / 10)) (c / 10) = flH (com2 T A c) (c / 10) := rfl
        have hH8 : flH (com2 T A c) (c / 10) ≤ 8 := com1_H h7 (h3 _ ho).2
        refine ok_bind (P := fun r : Int32 × MI => r.1 = (if frb T A c then 1 else 0) ∧ CG ni r.2 f (com T A c) ∧ r.2 (f + 9) = I (f + 9) ∧ r.2 f 12 = I f 12 ∧ Fo f I r.2) ?_ (fun r hr => ?_)
        · unfold f_X0_leaveHole com
          rw [if_pos e1]
          refine ok_bs (rd_v (c / 10) rfl ho (by omega) (w2.2.2.1 _ ho)) ?_
          unfold lev
          by_cases q2 : flH (com2 T A c) (c / 10) = 0
          · refine ok_pos ((m1_e (by omega)).mpr (hHe.trans q2)) (ok_some ?_)
            rw [if_pos (hHe.trans q2)]
            refine ⟨?_, w2, u2, u3, u4⟩
            simp [frb, q2]
          · refine ok_neg (fun w => q2 ((m1_e (by omega)).mp w)) ?_
            rw [if_neg (fun w => q2 (hHe.symm.trans w))]
            refine ok_wr (flH (com2 T A c) (c / 10) - 1) (m1_p q2) (by omega) (by omega) (ok_wr (c / 10) rfl ho (by omega) (ok_some ⟨?_, ?_, ?_, ?_, ?_⟩))
            · simp [frb, q2, e1]
            · exact (w2.sO (v := 0)).sH (v := 0)
            · dsimp only; rw [mst_row _ _ _ (by omega), mst_row _ _ _ (by omega)]; exact u2
            · dsimp only; rw [mst_row _ _ _ (by omega), mst_row _ _ _ (by omega)]; exact u3
            · exact (u4.tr (Fo.ms (by omega))).tr (Fo.ms (by omega))
        · have hb : r.1 = 0 ∨ r.1 = 1 := by rw [hr.1]; split <;> simp
          rcases hb with e | e
          · rw [e] at hr ⊢
            exact ok_gb0 (ok_some ⟨hr.1, hr.2⟩)
          · rw [e] at hr ⊢
            exact ok_gb1 (ok_some ⟨hr.1, hr.2⟩)
    · have e1 : ful T A c = false := decide_eq_false q
      refine ok_pos (nI_lt (by omega) (by omega)) (ok_some ⟨?_, ?_, k2, k3, k4⟩)
      · simp [frb, e1]
      · unfold com
        rw [e1]
        exact k1
theorem whl_lev {A : Fl} {o : Nat} : whl (lev A o) o = lev (whl A o) o := by
  have e : flH (whl A o) o = flH A o := rfl
  unfold lev
  rw [e]
  split <;> rfl
theorem lev_C {A : Fl} {o : Nat} : flC (lev A o) = flC A ∧ flB (lev A o) = flB A := by
  unfold lev
  split <;> exact ⟨rfl, rfl⟩
/-- the reference's -/
theorem co_m {ni : Nat} {K : MI} {J : MJ} {m c : Nat} {T : Tx} {A : Fl} (hT : MT K m T) (hi : ni ≤ 10) (hA : MG ni (K (m + 13)) A) (h : Cm T A c) : Ok (f_X5_comes m (nI (c / 10)) (nI (c % 10)) J K) (fun K' => MG ni (K' (m + 13)) (com T A c) ∧ (∀ k, 1235 ≤ k → k < 2100 → K' (m + 13) k = K (m + 13) k) ∧ ∀ a, a ≠ m + 13 → K' a = K a) := by
  have hsm := com2_sm h
  obtain ⟨h1, h2, h3, h4, h5, h6, h7, h8, h9⟩ := h
  have ho : c / 10 < 16 := by omega
  have hw := (h3 _ ho).1
  have hfl := ff_le (g := flO A) (n := tiH T)
  have hC := Nat.le_of_lt h6
  unfold f_X5_comes
  refine ok_bs (rd_v (330 + c / 10) (ci_a rfl _) (by omega) (by omega) (hA.2.1 _ ho)) ?_
  refine ok_bind (P := fun K1 => MG ni (K1 (m + 13)) (com1 T A (c / 10)) ∧ (∀ k, 1235 ≤ k → k < 2100 → K1 (m + 13) k = K (m + 13) k) ∧ ∀ a, a ≠ m + 13 → K1 a = K a) ?_ (fun K1 hK1 => ?_)
  · unfold com1
    by_cases q : flW A (c / 10) = 1
    · rw [if_pos q]
      have hff : ff (flO A) (tiH T) ≠ 0 := by
        rcases h2 with e | e | e
        · omega
        · omega
        · exact e
      refine ok_pos (by rw [q]; rfl) ?_
      refine ok_bs (fh_m (J := J) hT.1.2.2.1 h7 hA.2.2.2.1 h4) ?_
      refine ok_wr (362 + (ff (flO A) (tiH T) - 1)) (by rw [m1_p hff]; exact ci_a rfl _) (by omega) (by omega) (ok_wr (346 + c / 10) (ci_a rfl _) (by omega) (by omega) (ok_wr (330 + c / 10) (ci_a rfl _) (by omega) (by omega) (ok_some ⟨?_, ?_, ?_⟩)))
      · rw [ms_r, ms_r, ms_r]
        have e1 := hA.sO (k := ff (flO A) (tiH T) - 1) (v := c / 10 + 1) (by omega) hi h9 hC
        rw [nI_pred] at e1
        exact (e1.sH (k := c / 10) (v := ff (flO A) (tiH T)) ho hi h9 hC).sW (v := 2) ho hi h9 hC
      · intro k q1 q2
        rw [ms_r, ms_r, ms_r, pu_n (by omega), pu_n (by omega), pu_n (by omega)]
      · intro a ha
        rw [mst_row _ _ _ ha, mst_row _ _ _ ha, mst_row _ _ _ ha]
    · rw [if_neg q]
      exact ok_neg (fun w => q ((nI_eq (b := 1) (by omega) (by omega)).mp w)) (ok_some ⟨hA, fun _ _ _ => rfl, fun _ _ => rfl⟩)
  · obtain ⟨g1, g2, g3⟩ := hK1
    have hc10 : 10 * (c / 10) + c % 10 = c := by omega
    have ec : (10 + 10 * nI (c / 10)) + nI (c % 10) = nI (10 + c) := by
      rw [ci_k (K := 10) (k := 10) rfl]
      congr 1
      omega
    have hB1 : (flB (com1 T A (c / 10))).length ≤ 864 := by rw [com1_A.2.2.2.1]; exact h9
    have hC1 : (flC (com1 T A (c / 10))).length < 16 := by rw [com1_A.2.2.2.2.1]; exact h6
    have eA : K1 (m + 13) (10 + c) = nI (flA A c) := by rw [g1.2.2.2.2.1 c h1, com1_A.1]
    refine ok_bs (rd_v (10 + c) ec (by omega) (by omega) eA) ?_
    rw [nI_1]
    refine ok_wr (10 + c) ec (by omega) (by omega) ?_
    obtain ⟨K2, hK2⟩ : ∃ K2, K2 = mst K1 (m + 13) (10 + c) (nI (flA A c + 1)) := ⟨_, rfl⟩
    rw [← hK2]
    have k1 : MG ni (K2 (m + 13)) (com2 T A c) := by rw [hK2, ms_r]; exact g1.sA h1 hi hB1 (by omega)
    have k2 : ∀ k, 1235 ≤ k → k < 2100 → K2 (m + 13) k = K (m + 13) k := fun k q1 q2 => by rw [hK2, ms_r, pu_n (by omega)]; exact g2 k q1 q2
    have k3 : ∀ a, a ≠ m + 13 → K2 a = K a := fun a ha => by rw [hK2, mst_row _ _ _ ha]; exact g3 a ha
    refine ok_bs (ms_s (k := 10) rfl k1.2.2.2.2.1 (by omega) ho) ?_
    refine ok_bs (mn_s (g := tiN T) (by rw [k3 _ (by omega)]; exact hT.2.2.2) ho) ?_
    have ht : sm (tiN T) (10 * (c / 10)) 10 ≤ 54 := h8 _ ho
    by_cases q : tot T (c / 10) ≤ sm (flA (com2 T A c)) (10 * (c / 10)) 10
    · have e1 : ful T A c = true := decide_eq_true q
      refine ok_neg (nI_nlt q (by omega)) ?_
      have hH8 : flH (com2 T A c) (c / 10) ≤ 8 := com1_H h7 (h3 _ ho).2
      refine ok_bind (P := fun K3 => MG ni (K3 (m + 13)) (lev (com2 T A c) (c / 10)) ∧ (∀ k, 1235 ≤ k → k < 2100 → K3 (m + 13) k = K (m + 13) k) ∧ ∀ a, a ≠ m + 13 → K3 a = K a) ?_ (fun K3 hK3 => ?_)
      · unfold f_X5_freesHole lev
        have r1 := rd_v (n := 2117) (i := 346 + nI (c / 10)) (346 + c / 10) (ci_a rfl _) (by omega) (by omega) (k1.2.2.1 _ ho)
        refine ok_bs r1 ?_
        by_cases q2 : flH (com2 T A c) (c / 10) = 0
        · rw [if_pos q2]
          exact ok_pos ((m1_l (by omega)).mpr q2) (ok_some ⟨k1, k2, k3⟩)
        · rw [if_neg q2]
          refine ok_neg (fun w => q2 ((m1_l (by omega)).mp w)) (ok_bs r1 ?_)
          refine ok_wr (362 + (flH (com2 T A c) (c / 10) - 1)) (by rw [m1_p q2]; exact ci_a rfl _) (by omega) (by omega) (ok_wr (346 + c / 10) (ci_a rfl _) (by omega) (by omega) (ok_some ⟨?_, ?_, ?_⟩))
          · rw [ms_r, ms_r]
            exact (k1.sO (v := 0) (by omega) hi hB1 (Nat.le_of_lt hC1)).sH (v := 0) ho hi hB1 (Nat.le_of_lt hC1)
          · intro k q1 q2
            rw [ms_r, ms_r, pu_n (by omega), pu_n (by omega)]
            exact k2 k q1 q2
          · intro a ha
            rw [mst_row _ _ _ ha, mst_row _ _ _ ha]
            exact k3 a ha
      · obtain ⟨l1, l2, l3⟩ := hK3
        have hBl : (flB (lev (com2 T A c) (c / 10))).length ≤ 864 := by rw [lev_C.2]; exact hB1
        have hCe : (flC (lev (com2 T A c) (c / 10))).length = (flC A).length := by
          rw [lev_C.1]
          show (flC (com1 T A (c / 10))).length = _
          rw [com1_A.2.2.2.2.1]
        have l4 : MG ni (pu (K3 (m + 13)) (330 + c / 10) 4) (setW (lev (com2 T A c) (c / 10)) (c / 10) 4) := l1.sW (v := 4) ho hi hBl (by omega)
        refine ok_wr (330 + c / 10) (ci_a rfl _) (by omega) (by omega) ?_
        have e16 : mst K3 (m + 13) (330 + c / 10) 4 (m + 13) 2100 = nI (flC A).length := by
          rw [ms_r, ← hCe]
          exact l4.2.2.2.2.2.2.2.1
        refine ok_bs (rd_v 2100 rfl (by omega) (by omega) e16) ?_
        refine ok_wr (2101 + (flC A).length) (ci_a rfl _) (by omega) (by omega) ?_
        refine ok_bs (rd_v (v := nI (flC A).length) 2100 rfl (by omega) (by omega) (by rw [mst_ne _ _ (Or.inr (by omega))]; exact e16)) ?_
        rw [nI_1]
        refine ok_wr 2100 rfl (by omega) (by omega) (ok_some ⟨?_, fun k q1 q2 => ?_, fun a ha => ?_⟩)
        · rw [ms_r, ms_r, ms_r]
          unfold com
          rw [if_pos e1, ← whl_lev]
          have := l4.sC (o := c / 10) hi hBl (by show (flC (lev (com2 T A c) (c / 10))).length < 16; omega)
          have hCe2 : (flC (setW (lev (com2 T A c) (c / 10)) (c / 10) 4)).length = (flC A).length := hCe
          rw [hCe2] at this
          exact this
        · rw [ms_r, ms_r, ms_r, pu_n (by omega), pu_n (by omega), pu_n (by omega)]
          exact l2 k q1 q2
        · rw [mst_row _ _ _ ha, mst_row _ _ _ ha, mst_row _ _ _ ha]
          exact l3 a ha
    · have e1 : ful T A c = false := decide_eq_false q
      refine ok_pos (nI_lt (Nat.lt_of_not_le q) (by omega)) (ok_some ⟨?_, k2, k3⟩)
      unfold com
      rw [e1]
      exact k1
