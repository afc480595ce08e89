/-! shares; the class's plan, the reference's picks -/
def lf (T : Tx) (w i u : Nat) : Nat → Nat
  | 0 => u
  | e + 1 => lf T w i u e - (if w.testBit (tiE T e) then min (lf T w i u e) (tiN T (10 * tiE T e + i)) else 0)
def gv (T : Tx) (w i u e : Nat) : Nat := if w.testBit (tiE T e) then min (lf T w i u e) (tiN T (10 * tiE T e + i)) else 0
theorem lf_s {T : Tx} {w i u e : Nat} : lf T w i u (e + 1) = lf T w i u e - gv T w i u e := rfl
theorem lf_le {T : Tx} {w i u : Nat} : ∀ e, lf T w i u e ≤ u := by
  intro e
  induction e with
  | zero => exact Nat.le_refl _
  | succ e ih => rw [lf]; omega
theorem gv_le {T : Tx} {w i u e : Nat} : gv T w i u e ≤ lf T w i u e ∧ gv T w i u e ≤ tiN T (10 * tiE T e + i) := by
  unfold gv
  split <;> omega
def ixE (T : Tx) (o : Nat) : Nat := nE (fun e => decide (tiE T e = o)) (tiO T) 0
theorem ix_e {T : Tx} (hT : GT T) {e : Nat} (he : e < tiO T) : ixE T (tiE T e) = e := by
  obtain ⟨_, n2, n3, n4⟩ := nE_s (p := fun q => decide (tiE T q = tiE T e)) (tiO T) 0
  unfold ixE
  generalize nE (fun q => decide (tiE T q = tiE T e)) (tiO T) 0 = j at n2 n3 n4
  have hj : j ≤ e := by
    refine Nat.le_of_not_lt (fun q => ?_)
    have := n4 e (by omega) q
    simp at this
  have := n3 (by omega)
  rw [decide_eq_true_eq] at this
  exact er_inj hT (by omega) he this
theorem ix_o {T : Tx} (hT : GT T) {o : Nat} (ho : o < tiO T) : ixE T o < tiO T ∧ tiE T (ixE T o) = o := by
  obtain ⟨e, he, rfl⟩ := hT.2.2.2.2.2.2.2.2.2.2.2 o ho
  rw [ix_e hT he]
  exact ⟨he, rfl⟩
def shc (T : Tx) (A : Fl) (w c : Nat) : Nat := if c / 10 < tiO T then gv T w (c % 10) (un T A w (c % 10)) (ixE T (c / 10)) else 0
theorem shc_e {T : Tx} {A : Fl} {w e i : Nat} (hT : GT T) (he : e < tiO T) (hi : i < 10) : shc T A w (10 * tiE T e + i) = gv T w i (un T A w i) e := by
  have := tE_lt hT he
  unfold shc
  rw [show (10 * tiE T e + i) / 10 = tiE T e by omega, show (10 * tiE T e + i) % 10 = i by omega, if_pos this, ix_e hT he]
theorem shc_le {T : Tx} {A : Fl} {w c : Nat} (hT : GT T) : shc T A w c ≤ tiN T c := by
  unfold shc
  split
  · rename_i h
    have := (ix_o hT h).2
    have h2 := (gv_le (T := T) (w := w) (i := c % 10) (u := un T A w (c % 10)) (e := ixE T (c / 10))).2
    rw [this, show 10 * (c / 10) + c % 10 = c by omega] at h2
    exact h2
  · omega
theorem so_o {I : MI} {p t w i u : Nat} {T : Tx} {g0 : Nat → Nat} (hT : CT I t T) (hg : GT T) (hd : t + 10 ≤ p ∨ p + 9 ≤ t) (hw : I p 0 = nI w) (h16 : w < 65536) (hi : i < 10) (hu : u ≤ 1000) (h3 : ∀ c, c < 160 → I (p + 3) c = nI (g0 c)) (hz : ∀ c, c < 160 → c % 10 = i → g0 c = 0) : Ok (f_X1_shareOut p t (nI i) (nI u) I) (fun I' => (∀ c, c < 160 → I' (p + 3) c = nI (if c % 10 = i ∧ c / 10 < tiO T then gv T w i u (ixE T (c / 10)) else g0 c)) ∧ ∀ a, a ≠ p + 3 → I' a = I a) := by
  have hO := hg.2.1
  unfold f_X1_shareOut
  refine ok_bind (P := fun s : Int32 × Int32 × MI => (∀ c, c < 160 → s.2.2 (p + 3) c = nI (if c % 10 = i ∧ c / 10 < tiO T then gv T w i u (ixE T (c / 10)) else g0 c)) ∧ ∀ a, a ≠ p + 3 → s.2.2 a = I a) (ok_up (tiO T) (fun e s => ∃ I', s = (nI (lf T w i u e), nI e, I') ∧ (∀ c, c < 160 → I' (p + 3) c = nI (if c % 10 = i ∧ c / 10 < tiO T ∧ ixE T (c / 10) < e then gv T w i u (ixE T (c / 10)) else g0 c)) ∧ ∀ a, a ≠ p + 3 → I' a = I a) (fun e s he hs => ?_) (fun s hs => ?_) 0 _ (by omega) ⟨I, rfl, fun c hc => ?_, fun _ _ => rfl⟩) (fun s hs => ok_some hs)
  · obtain ⟨I', rfl, i1, i2⟩ := hs
    have hE := tE_lt hg he
    have cT' : CT I' t T := hT.fr (fun r hr => i2 _ (by omega))
    have hn := (hg.2.2.2.2.2.2.2.1 (10 * tiE T e + i) (by omega)).1
    have hl := lf_le (T := T) (w := w) (i := i) (u := u) e
    refine ok_pos (by dsimp only; rw [cT'.1.2.1]; exact nI_lt he (by omega)) (ok_bs (rd_v e rfl (by omega) (by omega) (cT'.2.2.2.2.2.2 e he)) ?_)
    dsimp only
    rw [i2 p (by omega), hw]
    refine ok_bs (hb_s h16 (by omega)) ?_
    cases hb : w.testBit (tiE T e)
    · have hgv : gv T w i u e = 0 := by unfold gv; rw [hb]; rfl
      refine ok_bs (it_p (by simp) rfl) (ok_some ⟨I', ?_, fun c hc => ?_, i2⟩)
      · dsimp only
        rw [lf_s, hgv, nI_1]
        rfl
      · rw [i1 c hc]
        congr 1
        by_cases q : c % 10 = i ∧ c / 10 < tiO T ∧ ixE T (c / 10) < e
        · rw [if_pos q, if_pos ⟨q.1, q.2.1, by omega⟩]
        · rw [if_neg q]
          by_cases q2 : c % 10 = i ∧ c / 10 < tiO T ∧ ixE T (c / 10) < e + 1
          · rw [if_pos q2, show ixE T (c / 10) = e by omega, hgv, hz c hc q2.1]
          · rw [if_neg q2]
    · have hgv : gv T w i u e = min (lf T w i u e) (tiN T (10 * tiE T e + i)) := by unfold gv; rw [hb]; rfl
      have hcl : f_X4_cell (nI (tiE T e)) (nI i) = some (nI (10 * tiE T e + i)) := congrArg some (ci_c _ _)
      refine ok_bs (a := (nI (lf T w i u (e + 1)), mst I' (p + 3) (10 * tiE T e + i) (nI (gv T w i u e)))) (it_n (by simp) (bnd_s hcl (bnd_s (rd_v _ rfl (by omega) (by omega) (cT'.2.2.2.1 _ (by omega))) (bnd_s hcl ?_)))) (ok_some ⟨_, by dsimp only; rw [nI_1], fun c hc => ?_, fun a ha => ?_⟩)
      · rw [imin_n (by omega) (by omega), ← hgv]
        refine bnd_s (wr_k (10 * tiE T e + i) rfl (by omega) (by omega)) ?_
        rw [lf_s, nI_sub gv_le.1]
      · try dsimp only
        rw [ms_r]
        by_cases e1 : c = 10 * tiE T e + i
        · rw [e1, pu_s, show (10 * tiE T e + i) / 10 = tiE T e by omega, ix_e hg he, if_pos ⟨by omega, hE, by omega⟩]
        · rw [pu_n e1, i1 c hc]
          congr 1
          have : ¬ (c % 10 = i ∧ c / 10 < tiO T ∧ ixE T (c / 10) = e) := fun q => by
            have := (ix_o hg q.2.1).2
            rw [q.2.2] at this
            omega
          by_cases q : c % 10 = i ∧ c / 10 < tiO T ∧ ixE T (c / 10) < e
          · rw [if_pos q, if_pos ⟨q.1, q.2.1, by omega⟩]
          · rw [if_neg q, if_neg (by omega)]
      · try dsimp only
        rw [mst_row _ _ _ ha]
        exact i2 a ha
  · obtain ⟨I', rfl, i1, i2⟩ := hs
    refine ok_neg ?_ (ok_some ⟨fun c hc => ?_, i2⟩)
    · dsimp only
      rw [i2 t (by omega), hT.1.2.1]
      exact nI_nlt (Nat.le_refl _) (by omega)
    · dsimp only
      rw [i1 c hc]
      congr 1
      by_cases q : c % 10 = i ∧ c / 10 < tiO T
      · rw [if_pos q, if_pos ⟨q.1, q.2, (ix_o hg q.2).1⟩]
      · rw [if_neg q, if_neg (by omega)]
  · rw [if_neg (by omega)]
    exact h3 c hc
theorem bs_z {p : Nat → Bool} {n : Nat} : ∀ k, (∀ i, n ≤ i → i < n + k → p i = false) → bs p (n + k) = bs p n := by
  intro k
  induction k with
  | zero => intro _; rfl
  | succ k ih =>
    intro h
    rw [← Nat.add_assoc, bs, ih (fun i h1 h2 => h i h1 (by omega)), h (n + k) (by omega) (by omega)]
    rfl
theorem la_c {I : MI} {p t o : Nat} {T : Tx} {sh : Nat → Nat} (hT : CT I t T) (hg : GT T) (hd : t + 10 ≤ p ∨ p + 9 ≤ t) (ho : o < tiO T) (h3 : ∀ c, c < 160 → I (p + 3) c = nI (sh c)) (hs9 : ∀ c, c < 160 → sh c ≤ tiN T c) : Ok (f_X1_lookAtShare p t (nI o) I) (fun I' => I' (p + 7) = pu (I (p + 7)) o (nI (bs (fun i => decide (0 < sh (10 * o + i))) 10)) ∧ I' (p + 8) = pu (I (p + 8)) o (if sm sh (10 * o) 10 = tot T o then 1 else 0) ∧ ∀ a, a ≠ p + 7 → a ≠ p + 8 → I' a = I a) := by
  have hI := hg.1
  have hO := hg.2.1
  unfold f_X1_lookAtShare
  refine ok_wr o rfl (by omega) (by omega) ?_
  refine ok_bind (P := fun s : Int32 × MI => s.2 (p + 7) = pu (I (p + 7)) o (nI (bs (fun i => decide (0 < sh (10 * o + i))) 10)) ∧ ∀ a, a ≠ p + 7 → s.2 a = I a) (ok_up (tiI T) (fun k s => ∃ I', s = (nI k, I') ∧ I' (p + 7) = pu (I (p + 7)) o (nI (bs (fun i => decide (0 < sh (10 * o + i))) k)) ∧ ∀ a, a ≠ p + 7 → I' a = I a) (fun k s hk hs => ?_) (fun s hs => ?_) 0 _ (by omega) ⟨_, rfl, ms_r, fun a ha => mst_row _ _ _ ha⟩) (fun s hs => ?_)
  · obtain ⟨I', rfl, i1, i2⟩ := hs
    have hcl : f_X4_cell (nI o) (nI k) = some (nI (10 * o + k)) := congrArg some (ci_c _ _)
    have h9 := hs9 (10 * o + k) (by omega)
    have hn := (hg.2.2.2.2.2.2.2.1 (10 * o + k) (by omega)).1
    have e := bs_step (p := fun i => decide (0 < sh (10 * o + i))) (k := k) (by omega)
    refine ok_pos (by dsimp only; rw [i2 t (by omega), hT.1.1]; exact nI_lt hk (by omega)) (ok_bs hcl (ok_bs (rd_v (v := nI (sh (10 * o + k))) _ rfl (by omega) (by omega) (by dsimp only; rw [i2 _ (by omega)]; exact h3 _ (by omega))) ?_))
    by_cases h0 : 0 < sh (10 * o + k)
    · rw [if_pos (by simpa using h0)] at e
      refine ok_bs (a := mst I' (p + 7) o (nI (bs (fun i => decide (0 < sh (10 * o + i))) (k + 1)))) (it_p ((nI_p0 (by omega)).mpr h0) (bnd_s (rd_v (v := nI (bs (fun i => decide (0 < sh (10 * o + i))) k)) o rfl (by omega) (by omega) (by dsimp only; rw [i1, pu_s])) ?_)) (ok_some ⟨_, by dsimp only; rw [nI_1], ?_, fun a ha => ?_⟩)
      · dsimp only
        rw [e]
        exact bnd_s (wr_k o rfl (by omega) (by omega)) rfl
      · rw [ms_r, i1, pu_pu]
      · rw [mst_row _ _ _ ha]; exact i2 a ha
    · rw [if_neg (by simpa using h0), i_or0] at e
      refine ok_bs (a := I') (it_n (fun q => h0 ((nI_p0 (by omega)).mp q)) rfl) (ok_some ⟨I', by dsimp only; rw [nI_1], ?_, i2⟩)
      rw [i1, e]
  · obtain ⟨I', rfl, i1, i2⟩ := hs
    refine ok_neg (by dsimp only; rw [i2 t (by omega), hT.1.1]; exact nI_nlt (Nat.le_refl _) (by omega)) (ok_some ⟨?_, i2⟩)
    dsimp only
    have := bs_z (p := fun i => decide (0 < sh (10 * o + i))) (n := tiI T) (10 - tiI T) (fun i h1 h2 => by
      have q1 := hs9 (10 * o + i) (by omega)
      have q2 := (hg.2.2.2.2.2.2.2.1 (10 * o + i) (by omega)).2 (Or.inr (by omega))
      rw [decide_eq_false_iff_not]
      omega)
    rw [show tiI T + (10 - tiI T) = 10 by omega] at this
    rw [this]
    exact i1
  · obtain ⟨s1, I'⟩ := s
    obtain ⟨i1, i2⟩ := hs
    dsimp only at i1 i2
    refine ok_bs (so_s (g := sh) (fun c hc => by dsimp only; rw [i2 _ (by omega)]; exact h3 c hc) (by omega)) (ok_bs (rd_v (v := nI (tot T o)) o rfl (by omega) (by omega) (by dsimp only; rw [i2 _ (by omega)]; exact hT.2.2.2.2.1 o (by omega))) ?_)
    have ht := (hg.2.2.2.2.2.2.2.2.1 o (by omega)).1
    have hs : sm sh (10 * o) 10 ≤ tot T o := sm_mono (fun i hi => hs9 _ (by omega))
    refine ok_bs (a := if sm sh (10 * o) 10 = tot T o then 1 else 0) ?_ (ok_bs (a := if sm sh (10 * o) 10 = tot T o then 1 else 0) (by split <;> rfl) (ok_wr o rfl (by omega) (by omega) (ok_some ⟨?_, ?_, fun a h1 h2 => ?_⟩)))
    · by_cases q : sm sh (10 * o) 10 = tot T o
      · rw [if_pos q]
        exact it_p (by rw [q]) rfl
      · rw [if_neg q]
        exact it_n (fun w => q ((nI_eq (by omega) (by omega)).mp w)) rfl
    · rw [mst_row _ _ _ (by omega)]; exact i1
    · rw [ms_r]; dsimp only; rw [i2 _ (by omega)]
    · rw [mst_row _ _ _ h2]; exact i2 a h1
def gts (T : Tx) (A : Fl) (w o : Nat) : Nat := bs (fun i => decide (0 < shc T A w (10 * o + i))) 10
def gta (T : Tx) (A : Fl) (w o : Nat) : Prop := sm (shc T A w) (10 * o) 10 = tot T o
def CPk (I : MI) (p : Nat) (T : Tx) (A : Fl) (w : Nat) (l : List Nat) : Prop := I p 0 = nI w ∧ I p 1 = nI l.length ∧ lsr (I (p + 1)) 0 l ∧ lsr (I (p + 2)) 0 (l.map (un T A w)) ∧ (∀ c, c < 160 → I (p + 3) c = nI (shc T A w c)) ∧ (∀ o, o < tiO T → I (p + 7) o = nI (gts T A w o)) ∧ (∀ o, o < tiO T → gta T A w o → I (p + 8) o = 1) ∧ ∀ o, o < tiO T → ¬ gta T A w o → I (p + 8) o = 0
theorem un_z {T : Tx} {A : Fl} {w i : Nat} (hT : GT T) (hi : i < 10) : un T A w i ≤ 144 := by
  have := wn_le hT (w := w) hi (tiO T) hT.2.1
  have := hT.2.1
  unfold un
  omega
theorem mk_c {I : MI} {p t f ni : Nat} {T : Tx} {A : Fl} (hT : CT I t T) (hA : CF ni I f A) (hni : tiI T ≤ ni) (hg : GT T) (gA : GH T A) (hd : t + 10 ≤ p ∨ p + 9 ≤ t) (hf : f + 10 ≤ p ∨ p + 9 ≤ f) : Ok (f_X1_make p t f I) (fun I' => ∃ l, Pk T A (wav T (wts T A) (tiW T)) l ∧ CPk I' p T A (wav T (wts T A) (tiW T)) l ∧ ∀ a, a < p ∨ p + 9 ≤ a → I' a = I a) := by
  have hI := hg.1
  have hO := hg.2.1
  have hW := hg.2.2.2.1
  have h16 : wts T A < 65536 := bs_16 hO
  have w16 : wav T (wts T A) (tiW T) < 65536 := wav_lt h16
  unfold f_X1_make
  refine ok_bs (wc_s hT hA hO (fun o ho => (gA.2.1 o ho).1)) ?_
  rw [hT.1.2.2.2.1]
  refine ok_bs (ga_c hT hg h16 hW.1 hW.2) ?_
  generalize wav T (wts T A) (tiW T) = w at w16 ⊢
  refine ok_wq (fun I3 hI3 => ok_wq (fun I4 hI4 => ok_bs (fl_s (by omega)) ?_))
  have e4 : ∀ a, a ≠ p → I4 a = I a := fun a ha => by rw [hI4, mst_row _ _ _ ha, hI3, mst_row _ _ _ ha]
  have p0 : I4 p 0 = nI w := by rw [hI4, mst_ne _ _ (Or.inr (by omega)), hI3, mst_self]
  have p1 : I4 p 1 = nI 0 := by rw [hI4, mst_self]; rfl
  refine ok_bind (P := fun s : Int32 × MI => ∃ l, Pk T A w l ∧ s.2 p 0 = nI w ∧ s.2 p 1 = nI l.length ∧ lsr (s.2 (p + 1)) 0 l ∧ lsr (s.2 (p + 2)) 0 (l.map (un T A w)) ∧ (∀ c, c < 160 → s.2 (p + 3) c = nI (shc T A w c)) ∧ ∀ a, a < p ∨ p + 9 ≤ a → s.2 a = I a) (ok_up (tiI T) (fun j s => ∃ l I', s = (nI j, I') ∧ l.Pairwise (plt (tiP T)) ∧ (∀ i, i ∈ l ↔ i < j ∧ 0 < un T A w i) ∧ l.length ≤ j ∧ I' p 0 = nI w ∧ I' p 1 = nI l.length ∧ lsr (I' (p + 1)) 0 l ∧ lsr (I' (p + 2)) 0 (l.map (un T A w)) ∧ (∀ c, c < 160 → I' (p + 3) c = nI (if c % 10 < j then shc T A w c else 0)) ∧ ∀ a, a < p ∨ p + 9 ≤ a → I' a = I a) (fun j s hj hs => ?_) (fun s hs => ?_) 0 _ (by omega) ⟨[], _, rfl, List.Pairwise.nil, fun i => ⟨fun q => by simp at q, fun q => by omega⟩, Nat.le_refl _, ?_, ?_, fun k c hk => by simp at hk, fun k c hk => by simp at hk, fun c hc => ?_, fun a ha => ?_⟩) (fun s hs => ?_)
  · obtain ⟨l, I', rfl, i1, i2, i3, i4, i5, i6, i7, i8, i9⟩ := hs
    have cT' : CT I' t T := hT.fr (fun r hr => i9 _ (by omega))
    have h99 := gA.1 j hj
    have hwn := wn_le hg (w := w) (i := j) (by omega) (tiO T) hO
    have hun := un_z (A := A) (w := w) (i := j) hg (by omega)
    refine ok_pos (by dsimp only; rw [cT'.1.1]; exact nI_lt hj (by omega)) (ok_bs (nf_c cT' hg i4 w16 (by omega)) (ok_bs (rd_v (v := nI (flS A j)) j rfl (by omega) (by omega) (by dsimp only; rw [i9 _ (by omega)]; exact hA.1 j (by omega))) ?_))
    rw [show imin (nI (wn T w j (tiO T))) (nI (flS A j)) = nI (un T A w j) from imin_n (by omega) (by omega)]
    by_cases h0 : 0 < un T A w j
    · refine ok_bind (P := fun I'' : MI => ∃ l, l.Pairwise (plt (tiP T)) ∧ (∀ i, i ∈ l ↔ i < j + 1 ∧ 0 < un T A w i) ∧ l.length ≤ j + 1 ∧ I'' p 0 = nI w ∧ I'' p 1 = nI l.length ∧ lsr (I'' (p + 1)) 0 l ∧ lsr (I'' (p + 2)) 0 (l.map (un T A w)) ∧ (∀ c, c < 160 → I'' (p + 3) c = nI (if c % 10 < j + 1 then shc T A w c else 0)) ∧ ∀ a, a < p ∨ p + 9 ≤ a → I'' a = I a) (ok_pos ((nI_p0 (by omega)).mpr h0) (ok_bind (ap_c (g := un T A w) cT' hg hd (by omega) (fun a ha => ((i2 a).mp ha).1) hj i5 i6 i7 i1 rfl) (fun I1 hI1 => ?_))) (fun I'' hI'' => ?_)
      · obtain ⟨l', a1, a2, a3, a4, a5, a6, a7, a8⟩ := hI1
        refine ok_bind (so_o (g0 := fun c => if c % 10 < j then shc T A w c else 0) (w := w) (cT'.fr (fun r hr => a8 _ (by omega) (by omega) (by omega))) hg hd (by rw [a7]; exact i4) w16 (by omega) (by omega) (fun c hc => by rw [a8 _ (by omega) (by omega) (by omega)]; exact i8 c hc) (fun c hc hcj => if_neg (by omega))) (fun I2 hI2 => ok_some ?_)
        obtain ⟨b1, b2⟩ := hI2
        refine ⟨l', a2, fun i => ?_, by omega, by rw [b2 _ (by omega), a7]; exact i4, by rw [b2 _ (by omega)]; exact a4, by rw [b2 _ (by omega)]; exact a5, by rw [b2 _ (by omega)]; exact a6, fun c hc => ?_, fun a ha => ?_⟩
        · rw [a3, i2]
          constructor
          · rintro (q | q)
            · exact ⟨by omega, q.2⟩
            · rw [q]; exact ⟨by omega, h0⟩
          · rintro ⟨q1, q2⟩
            by_cases e : i = j
            · exact Or.inr e
            · exact Or.inl ⟨by omega, q2⟩
        · rw [b1 c hc]
          congr 1
          by_cases q : c % 10 = j
          · rw [if_pos (show c % 10 < j + 1 by omega)]
            unfold shc
            by_cases q2 : c / 10 < tiO T
            · rw [if_pos ⟨q, q2⟩, if_pos q2, q]
            · rw [if_neg (by omega), if_neg (by omega), if_neg q2]
          · rw [if_neg (by omega)]
            by_cases q2 : c % 10 < j
            · rw [if_pos q2, if_pos (by omega)]
            · rw [if_neg q2, if_neg (by omega)]
        · rw [b2 a (by omega), a8 a (by omega) (by omega) (by omega)]
          exact i9 a ha
      · obtain ⟨l', h⟩ := hI''
        exact ok_some ⟨l', I'', by dsimp only; rw [nI_1], h⟩
    · refine ok_bs (it_n (fun q => h0 ((nI_p0 (by omega)).mp q)) rfl) (ok_some ⟨l, I', by dsimp only; rw [nI_1], i1, fun i => ?_, by omega, i4, i5, i6, i7, fun c hc => ?_, i9⟩)
      · rw [i2]
        constructor
        · rintro ⟨q1, q2⟩
          exact ⟨by omega, q2⟩
        · rintro ⟨q1, q2⟩
          have : i ≠ j := fun q => h0 (q ▸ q2)
          exact ⟨by omega, q2⟩
      · rw [i8 c hc]
        congr 1
        by_cases q : c % 10 < j
        · rw [if_pos q, if_pos (by omega)]
        · rw [if_neg q]
          by_cases q2 : c % 10 < j + 1
          · rw [if_pos q2]
            unfold shc
            split
            · rw [show c % 10 = j by omega]
              have := (gv_le (T := T) (w := w) (i := j) (u := un T A w j) (e := ixE T (c / 10))).1
              have := lf_le (T := T) (w := w) (i := j) (u := un T A w j) (ixE T (c / 10))
              omega
            · rfl
          · rw [if_neg q2]
  · obtain ⟨l, I', rfl, i1, i2, i3, i4, i5, i6, i7, i8, i9⟩ := hs
    refine ok_neg (by dsimp only; rw [i9 t (by omega), hT.1.1]; exact nI_nlt (Nat.le_refl _) (by omega)) (ok_some ⟨l, ⟨i1, i2⟩, i4, i5, i6, i7, fun c hc => ?_, i9⟩)
    dsimp only
    rw [i8 c hc]
    congr 1
    split
    · rfl
    · have h1 := shc_le (A := A) (w := w) (c := c) hg
      have h2 := (hg.2.2.2.2.2.2.2.1 c hc).2 (Or.inr (by omega))
      omega
  · rw [sr_o (by omega)]; exact p0
  · rw [sr_o (by omega)]; exact p1
  · rw [sr_s, show c = 0 + c by omega, ffl_i hc, if_neg (by omega)]
    rfl
  · rw [sr_o (by omega)]; exact e4 a (by omega)
  · obtain ⟨s1, I'⟩ := s
    obtain ⟨l, hl, i4, i5, i6, i7, i8, i9⟩ := hs
    dsimp only at i4 i5 i6 i7 i8 i9
    refine ok_bind (P := fun s : Int32 × MI => ∃ l, Pk T A w l ∧ CPk s.2 p T A w l ∧ ∀ a, a < p ∨ p + 9 ≤ a → s.2 a = I a) (ok_up (tiO T) (fun o s => ∃ I'', s = (nI o, I'') ∧ (∀ q, q < o → I'' (p + 7) q = nI (gts T A w q)) ∧ (∀ q, q < o → gta T A w q → I'' (p + 8) q = 1) ∧ (∀ q, q < o → ¬ gta T A w q → I'' (p + 8) q = 0) ∧ ∀ a, a ≠ p + 7 → a ≠ p + 8 → I'' a = I' a) (fun o s ho hs => ?_) (fun s hs => ?_) 0 _ (by omega) ⟨I', rfl, fun q hq => by omega, fun q hq => by omega, fun q hq => by omega, fun _ _ _ => rfl⟩) (fun s hs => ok_some hs)
    · obtain ⟨I'', rfl, j1, j2, j3, j4⟩ := hs
      have cT' : CT I'' t T := hT.fr (fun r hr => by rw [j4 _ (by omega) (by omega)]; exact i9 _ (by omega))
      refine ok_pos (by dsimp only; rw [cT'.1.2.1]; exact nI_lt ho (by omega)) (ok_bind (la_c (sh := shc T A w) cT' hg hd ho (fun c hc => by dsimp only; rw [j4 _ (by omega) (by omega)]; exact i8 c hc) (fun c _ => shc_le hg)) (fun I3 hI3 => ok_some ?_))
      obtain ⟨k1, k2, k3⟩ := hI3
      refine ⟨I3, by dsimp only; rw [nI_1], fun q hq => ?_, fun q hq hq2 => ?_, fun q hq hq2 => ?_, fun a h1 h2 => by rw [k3 a h1 h2]; exact j4 a h1 h2⟩
      · rw [k1]
        by_cases e : q = o
        · rw [e, pu_s]; rfl
        · rw [pu_n e]; exact j1 q (by omega)
      · rw [k2]
        by_cases e : q = o
        · rw [e, pu_s, if_pos (e ▸ hq2)]
        · rw [pu_n e]; exact j2 q (by omega) hq2
      · rw [k2]
        by_cases e : q = o
        · rw [e, pu_s, if_neg (e ▸ hq2)]
        · rw [pu_n e]; exact j3 q (by omega) hq2
    · obtain ⟨I'', rfl, j1, j2, j3, j4⟩ := hs
      refine ok_neg (by dsimp only; rw [j4 t (by omega) (by omega), i9 t (by omega), hT.1.2.1]; exact nI_nlt (Nat.le_refl _) (by omega)) (ok_some ⟨l, hl, ⟨?_, ?_, ?_, ?_, ?_, j1, j2, j3⟩, fun a ha => ?_⟩)
      · dsimp only; rw [j4 p (by omega) (by omega)]; exact i4
      · dsimp only; rw [j4 p (by omega) (by omega)]; exact i5
      · dsimp only; rw [j4 _ (by omega) (by omega)]; exact i6
      · dsimp only; rw [j4 _ (by omega) (by omega)]; exact i7
      · intro c hc
        dsimp only; rw [j4 _ (by omega) (by omega)]; exact i8 c hc
      · dsimp only; rw [j4 a (by omega) (by omega)]; exact i9 a ha
/-- the reference's picks -/
def MPk (K : MI) (m : Nat) (T : Tx) (A : Fl) (w : Nat) (l : List Nat) : Prop := K m 35 = nI l.length ∧ lsr (K (m + 18)) 0 l ∧ lsr (K (m + 19)) 0 (l.map (un T A w))
theorem lp_m {K : MI} {m ni w : Nat} {J : MJ} {T : Tx} {A : Fl} (hT : MT K m T) (hA : MF ni (K (m + 13)) A) (hni : tiI T ≤ ni) (hg : GT T) (gA : GH T A) (w16 : w < 65536) : Ok (f_X5_laysPicks m (nI w) J K) (fun K' => ∃ l, Pk T A w l ∧ MPk K' m T A w l ∧ Ms m K K') := by
  have hI := hg.1
  have hO := hg.2.1
  unfold f_X5_laysPicks
  refine ok_wq (fun K1 hK1 => ?_)
  have m1 : Ms m K K1 := by rw [hK1]; exact Ms.f (by omega)
  refine ok_bind (P := fun s : Int32 × MI => ∃ l, Pk T A w l ∧ MPk s.2 m T A w l ∧ Ms m K s.2) (ok_up 100 (fun a s => ∃ l K', s = (nI a, K') ∧ l.Pairwise (plt (tiP T)) ∧ (∀ i, i ∈ l ↔ i < tiI T ∧ 0 < un T A w i ∧ tiP T i < a) ∧ MPk K' m T A w l ∧ Ms m K K') (fun a s ha hs => ?_) (fun s hs => ?_) 0 _ (by omega) ⟨[], K1, rfl, List.Pairwise.nil, fun i => ⟨fun q => by simp at q, fun q => by omega⟩, ⟨by rw [hK1, mst_self]; rfl, fun k c hk => by simp at hk, fun k c hk => by simp at hk⟩, m1⟩) (fun s hs => ok_some hs)
  · obtain ⟨l0, K0, rfl, i1, i2, i3, i4⟩ := hs
    refine ok_neg (nI_nlt (a := 99) (by omega) (by omega)) (ok_bind (P := fun s : Int32 × MI => ∃ l, l.Pairwise (plt (tiP T)) ∧ (∀ i, i ∈ l ↔ i < tiI T ∧ 0 < un T A w i ∧ tiP T i < a + 1) ∧ MPk s.2 m T A w l ∧ Ms m K s.2) (ok_up (tiI T) (fun j s => ∃ l K', s = (nI j, K') ∧ l.Pairwise (plt (tiP T)) ∧ (∀ i, i ∈ l ↔ i < tiI T ∧ 0 < un T A w i ∧ (tiP T i < a ∨ tiP T i = a ∧ i < j)) ∧ MPk K' m T A w l ∧ Ms m K K') (fun j s hj hs => ?_) (fun s hs => ?_) 0 _ (by omega) ⟨l0, K0, rfl, i1, fun i => by rw [i2]; constructor <;> intro q <;> omega, i3, i4⟩) (fun s hs => ?_))
    · obtain ⟨l, K', rfl, j1, j2, ⟨j3, j4, j5⟩, j6⟩ := hs
      have cT' := hT.ms j6
      have hP := hg.2.2.2.2.2.1 j hj
      have h99 := gA.1 j hj
      have hwn := wn_le hg (w := w) (i := j) (by omega) (tiO T) hO
      have hun := un_z (A := A) (w := w) (i := j) hg (by omega)
      refine ok_bs (rd_v 0 rfl (by omega) (by omega) cT'.1.1) (ok_pos (nI_lt hj (by omega)) (ok_bs (rd_v j rfl (by omega) (by omega) (cT'.2.1 j hj)) ?_))
      have skip : ¬ (tiP T j = a ∧ 0 < un T A w j) → Ok (some (Sum.inl ((nI j, K').1 + 1, K') : (Int32 × MI) ⊕ (Int32 × MI))) (fun q => Sum.elim (fun s' => ∃ l K', s' = (nI (j + 1), K') ∧ l.Pairwise (plt (tiP T)) ∧ (∀ i, i ∈ l ↔ i < tiI T ∧ 0 < un T A w i ∧ (tiP T i < a ∨ tiP T i = a ∧ i < j + 1)) ∧ MPk K' m T A w l ∧ Ms m K K') (fun s : Int32 × MI => ∃ l, l.Pairwise (plt (tiP T)) ∧ (∀ i, i ∈ l ↔ i < tiI T ∧ 0 < un T A w i ∧ tiP T i < a + 1) ∧ MPk s.2 m T A w l ∧ Ms m K s.2) q) := by
        intro hno
        refine ok_some ⟨l, K', by dsimp only; rw [nI_1], j1, fun i => ?_, ⟨j3, j4, j5⟩, j6⟩
        rw [j2]
        by_cases e : i = j
        · subst e
          constructor <;> intro q <;> omega
        · constructor <;> intro q <;> omega
      by_cases hpa : tiP T j = a
      · have rS : rd 2117 (K' (m + 13)) (nI j) = some (nI (flS A j)) := rd_v j rfl (by omega) (by omega) (by rw [j6.1 _ (by omega)]; exact hA.1 j (by omega))
        refine ok_bind (P := fun K'' : MI => (un T A w j = 0 ∧ K'' = K') ∨ (0 < un T A w j ∧ K'' = mst (mst (mst K' (m + 18) l.length (nI j)) (m + 19) l.length (nI (un T A w j))) m 35 (nI (l.length + 1)))) (ok_pos (by rw [hpa]) (ok_bs (nf_m cT' hg w16 (by omega)) (ok_bs rS (ok_bs (a := nI (un T A w j)) ?_ ?_)))) (fun K'' hK'' => ?_)
        · unfold un
          by_cases q : wn T w j (tiO T) < flS A j
          · rw [Nat.min_eq_left (by omega)]
            exact it_p (nI_lt q (by omega)) rfl
          · rw [Nat.min_eq_right (by omega)]
            exact it_n (nI_nlt (by omega) (by omega)) (bnd_s rS rfl)
        · by_cases h0 : un T A w j = 0
          · exact ok_pos (by rw [h0]; rfl) (ok_some (Or.inl ⟨h0, rfl⟩))
          · have hlen : (l ++ [j]).length ≤ tiI T := nd_len _ _ (pw_nd (f := tiP T) (List.pairwise_append.mpr ⟨j1, List.pairwise_singleton _ _, fun b hb c hc => by
                have hb' := (j2 b).mp hb
                rw [List.mem_singleton.mp hc]
                unfold plt
                omega⟩)) (fun i hi => by
                rcases List.mem_append.mp hi with q | q
                · exact ((j2 i).mp q).1
                · rw [List.mem_singleton.mp q]; exact hj)
            rw [List.length_append, List.length_singleton] at hlen
            refine ok_neg (nI_ne0 (by omega) (by omega)) (ok_wr l.length j3 (by omega) (by omega) (ok_wr l.length ?_ (by omega) (by omega) (ok_wf (ok_some (Or.inr ⟨by omega, ?_⟩)))))
            · rw [mst_row _ _ _ (by omega)]; exact j3
            · rw [mst_row _ _ _ (by omega), mst_row _ _ _ (by omega)]
              dsimp only
              rw [j3, nI_1]
        · rcases hK'' with ⟨h0, rfl⟩ | ⟨h0, rfl⟩
          · exact skip (by omega)
          · refine ok_some ⟨l ++ [j], _, by dsimp only; rw [nI_1], List.pairwise_append.mpr ⟨j1, List.pairwise_singleton _ _, fun b hb c hc => ?_⟩, fun i => ?_, ⟨?_, fun k c hk => ?_, fun k c hk => ?_⟩, ((j6.tr (Ms.r (by omega) (by omega))).tr (Ms.r (by omega) (by omega))).tr (Ms.f (by omega))⟩
            · have hb' := (j2 b).mp hb
              rw [List.mem_singleton.mp hc]
              unfold plt
              omega
            · rw [List.mem_append, List.mem_singleton, j2]
              by_cases e : i = j
              · subst e
                constructor <;> intro q <;> omega
              · constructor <;> intro q <;> omega
            · rw [mst_self, List.length_append, List.length_singleton]
            · rw [Nat.zero_add, mst_row _ _ _ (by omega), mst_row _ _ _ (by omega), ms_r]
              rcases ls_app hk with q | ⟨q1, q2⟩
              · have := ls_lt q
                rw [pu_n (by omega)]
                have := j4 k c q
                rw [Nat.zero_add] at this
                exact this
              · rw [q1, q2, pu_s]
            · rw [Nat.zero_add, mst_row _ _ _ (by omega), ms_r, mst_row _ _ _ (by omega)]
              rw [List.map_append, List.map_singleton] at hk
              rcases ls_app hk with q | ⟨q1, q2⟩
              · have := ls_lt q
                rw [List.length_map] at this
                rw [pu_n (by omega)]
                have := j5 k c q
                rw [Nat.zero_add] at this
                exact this
              · rw [List.length_map] at q1
                rw [q1, q2, pu_s]
      · refine ok_bs (it_n (fun q => hpa ((nI_eq (by omega) (by omega)).mp q)) rfl) (skip (fun q => hpa q.1))
    · obtain ⟨l, K', rfl, j1, j2, j3, j6⟩ := hs
      have cT' := hT.ms j6
      refine ok_bs (rd_v 0 rfl (by omega) (by omega) cT'.1.1) (ok_neg (nI_nlt (Nat.le_refl _) (by omega)) (ok_some ⟨l, j1, fun i => ?_, j3, j6⟩))
      rw [j2]
      constructor <;> intro q <;> omega
    · obtain ⟨l, h1, h2, h3, h4⟩ := hs
      exact ok_some ⟨l, s.2, by dsimp only; rw [nI_1], h1, h2, h3, h4⟩
  · obtain ⟨l, K', rfl, i1, i2, i3, i4⟩ := hs
    refine ok_pos (nI_lt (a := 99) (b := 100) (by omega) (by omega)) (ok_some ⟨l, ⟨i1, fun i => ?_⟩, i3, i4⟩)
    rw [i2]
    constructor
    · intro q; omega
    · intro q
      have := hg.2.2.2.2.2.1 i q.1
      omega
