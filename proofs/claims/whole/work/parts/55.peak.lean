/-! holes needed: the class -/
def whb (T : Tx) (A : Fl) (w c o : Nat) : Bool := decide (sm (shc T A w) (10 * o) 10 = tot T o) && decide (df (gts T A w o) c = 0)
def hob (T : Tx) (A : Fl) (w c o : Nat) : Bool := decide (gts T A w o &&& c ≠ 0) && !whb T A w c o
def hE (T : Tx) (A : Fl) (w c i e o : Nat) : Bool := if ixE T o < e then hob T A w (c ||| 2 ^ i) o else hob T A w c o
def mxE (T : Tx) (A : Fl) (w c i : Nat) : Nat → Nat
  | 0 => ct (hob T A w c) (tiO T)
  | e + 1 => if (gts T A w (tiE T e)).testBit i then max (mxE T A w c i e) (ct (fun q => hE T A w c i e q || decide (q = tiE T e)) (tiO T)) else mxE T A w c i e
def nds (T : Tx) (A : Fl) (w : Nat) : List Nat → Nat → Nat → Nat
  | [], _, M => M
  | i :: l, c, M => nds T A w l (c ||| 2 ^ i) (max M (mxE T A w c i (tiO T)))
theorem ct_upd {p p' : Nat → Bool} {n k : Nat} (hk : k < n) (h : ∀ i, i < n → i ≠ k → p' i = p i) : ct p' n + (p k).toNat = ct p n + (p' k).toNat := by
  induction n with
  | zero => omega
  | succ n ih =>
    rw [ct, ct]
    by_cases e : k = n
    · have : ct p' n = ct p n := ct_cg (fun i hi => h i (by omega) (by omega))
      rw [this, e]
      omega
    · have h1 := ih (by omega) (fun i hi hne => h i (by omega) hne)
      rw [h n (by omega) (fun q => e q.symm)]
      omega
section Pk2
variable {T : Tx} {A : Fl} {w : Nat}
theorem gts_16 {o : Nat} : gts T A w o < 65536 := it_16
theorem whb_no {c i o : Nat} (h : (gts T A w o).testBit i = false) : whb T A w (c ||| 2 ^ i) o = whb T A w c o ∧ hob T A w (c ||| 2 ^ i) o = hob T A w c o := by
  have e1 : gts T A w o &&& (c ||| 2 ^ i) = gts T A w o &&& c := by
    refine Nat.eq_of_testBit_eq (fun j => ?_)
    rw [Nat.testBit_and, Nat.testBit_and, Nat.testBit_or, Nat.testBit_two_pow]
    by_cases q : i = j
    · rw [← q, h]; rfl
    · simp [q]
  have e2 : df (gts T A w o) (c ||| 2 ^ i) = df (gts T A w o) c := by unfold df; rw [e1]
  have e3 : whb T A w (c ||| 2 ^ i) o = whb T A w c o := by unfold whb; rw [e2]
  exact ⟨e3, by unfold hob; rw [e1, e3]⟩
theorem hob_yes {c i o : Nat} (h : (gts T A w o).testBit i = true) : hob T A w (c ||| 2 ^ i) o = !whb T A w (c ||| 2 ^ i) o := by
  have : gts T A w o &&& (c ||| 2 ^ i) ≠ 0 := by
    intro q
    have : (gts T A w o &&& (c ||| 2 ^ i)).testBit i = true := by
      rw [Nat.testBit_and, Nat.testBit_or, Nat.testBit_two_pow, h]
      simp
    rw [q, Nat.zero_testBit] at this
    cases this
  unfold hob
  simp [this]
theorem hE_0 {c i o : Nat} : hE T A w c i 0 o = hob T A w c o := by
  unfold hE
  rw [if_neg (by omega)]
theorem hE_a {c i o : Nat} (hT : GT T) (ho : o < tiO T) : hE T A w c i (tiO T) o = hob T A w (c ||| 2 ^ i) o := by
  unfold hE
  rw [if_pos (ix_o hT ho).1]
theorem hE_o {c i e q : Nat} (hT : GT T) (he : e < tiO T) (hq : q < tiO T) (hne : q ≠ tiE T e) : hE T A w c i (e + 1) q = hE T A w c i e q := by
  unfold hE
  have : ixE T q ≠ e := fun r => hne (by rw [← r]; exact (ix_o hT hq).2.symm)
  by_cases h : ixE T q < e
  · rw [if_pos h, if_pos (by omega)]
  · rw [if_neg h, if_neg (by omega)]
theorem hE_e {c i e : Nat} (hT : GT T) (he : e < tiO T) : hE T A w c i e (tiE T e) = hob T A w c (tiE T e) ∧ hE T A w c i (e + 1) (tiE T e) = hob T A w (c ||| 2 ^ i) (tiE T e) := by
  unfold hE
  rw [ix_e hT he, if_neg (by omega), if_pos (by omega)]
  exact ⟨rfl, rfl⟩
/-- holes with one more order counted -/
theorem c1_e {c i e : Nat} (hT : GT T) (he : e < tiO T) : ct (fun q => hE T A w c i e q || decide (q = tiE T e)) (tiO T) + (hob T A w c (tiE T e)).toNat = ct (hE T A w c i e) (tiO T) + 1 := by
  have := ct_upd (p := hE T A w c i e) (p' := fun q => hE T A w c i e q || decide (q = tiE T e)) (tE_lt hT he) (fun j _ hne => by simp [hne])
  rw [(hE_e hT he).1] at this
  simpa using this
theorem c2_e {c i e : Nat} (hT : GT T) (he : e < tiO T) : ct (hE T A w c i (e + 1)) (tiO T) + 1 = ct (fun q => hE T A w c i e q || decide (q = tiE T e)) (tiO T) + (hob T A w (c ||| 2 ^ i) (tiE T e)).toNat := by
  have := ct_upd (p := fun q => hE T A w c i e q || decide (q = tiE T e)) (p' := hE T A w c i (e + 1)) (tE_lt hT he) (fun j hj hne => by rw [hE_o hT he hj hne]; simp [hne])
  rw [(hE_e hT he).2] at this
  simpa using this
theorem c3_e {c i e : Nat} (hT : GT T) (he : e < tiO T) (h : (gts T A w (tiE T e)).testBit i = false) : ∀ q, q < tiO T → hE T A w c i (e + 1) q = hE T A w c i e q := by
  intro q hq
  by_cases hne : q = tiE T e
  · rw [hne, (hE_e hT he).1, (hE_e hT he).2, (whb_no h).2]
  · exact hE_o hT he hq hne
theorem mxE_le {c i : Nat} (hT : GT T) : ∀ e, mxE T A w c i e ≤ 16 := by
  have hO := hT.2.1
  intro e
  induction e with
  | zero =>
    have := ct_le (hob T A w c) (tiO T)
    rw [mxE]
    omega
  | succ e ih =>
    rw [mxE]
    have := ct_le (fun q => hE T A w c i e q || decide (q = tiE T e)) (tiO T)
    split <;> omega
variable {I : MI} {p t : Nat} {l : List Nat}
theorem iw_c (hT : GT T) (cP : CPk I p T A w l) {o c : Nat} (ho : o < tiO T) : f_X1_isWholeBehind p (nI o) (nI c) I = some (if whb T A w c o = true then 1 else 0) := by
  have hO := hT.2.1
  unfold f_X1_isWholeBehind
  have g6 := cP.2.2.2.2.2.1 o ho
  refine bnd_s (rd_k o rfl (by omega) (by omega)) ?_
  have hg : gts T A w o < 65536 := gts_16
  have hdf : df (gts T A w o) c < 65536 := df_16 hg
  refine bnd_s (a := if whb T A w c o = true then 1 else 0) ?_ (by split <;> rfl)
  unfold whb
  by_cases hga : sm (shc T A w) (10 * o) 10 = tot T o
  · rw [cP.2.2.2.2.2.2.1 o ho hga, decide_eq_true hga]
    refine it_n (by decide) (bnd_s (rd_v o rfl (by omega) (by omega) g6) ?_)
    rw [b_df (by omega)]
    by_cases hd : df (gts T A w o) c = 0
    · exact it_p (by rw [hd]; rfl) (by rw [decide_eq_true hd]; rfl)
    · exact it_n (nI_ne0 (by omega) (by omega)) (by rw [decide_eq_false hd]; rfl)
  · rw [cP.2.2.2.2.2.2.2 o ho hga, decide_eq_false hga]
    exact it_p rfl rfl
theorem ho_c (hT : GT T) (cP : CPk I p T A w l) {o c : Nat} (ho : o < tiO T) : f_X1_holdsBehind p (nI o) (nI c) I = some (if hob T A w c o = true then 1 else 0) := by
  have hO := hT.2.1
  unfold f_X1_holdsBehind
  have g6 := cP.2.2.2.2.2.1 o ho
  have hg : gts T A w o < 65536 := gts_16
  have hla : gts T A w o &&& c < 65536 := ld_16 hg
  refine bnd_s (rd_v o rfl (by omega) (by omega) g6) ?_
  rw [b_land]
  refine bnd_s (a := if hob T A w c o = true then 1 else 0) ?_ (by split <;> rfl)
  unfold hob
  by_cases h0 : gts T A w o &&& c = 0
  · exact it_p (by rw [h0]; rfl) (by simp [h0])
  · refine it_n (nI_ne0 (by omega) (by omega)) (bnd_s (iw_c hT cP ho) ?_)
    cases hw : whb T A w c o
    · exact it_p (by simp) (by simp [h0])
    · exact it_n (by simp) (by simp)
theorem pe_c (hT : GT T) (cT : CT I t T) (cP : CPk I p T A w l) {c i : Nat} (hi : i < 10) : f_X1_peak p t (nI c) (nI i) I = some (nI (mxE T A w c i (tiO T))) := by
  have hO := hT.2.1
  unfold f_X1_peak
  refine bnd_s (lp_fs (fun k => (nI (ct (hob T A w c) k), nI k)) (tiO T) (r := (nI (ct (hob T A w c) (tiO T)), nI (tiO T))) (fun k hk => ?_) ?_) ?_
  · refine it_p (by rw [cT.1.2.1]; exact nI_lt hk (by omega)) (bnd_s (ho_c hT cP hk) ?_)
    dsimp only
    rw [ct]
    cases hb : hob T A w c k
    · exact bnd_s (it_p (by simp) rfl) (by rw [nI_1]; rfl)
    · exact bnd_s (it_n (by simp) rfl) (by rw [nI_1, nI_1]; rfl)
  · exact it_n (by rw [cT.1.2.1]; exact nI_nlt (Nat.le_refl _) (by omega)) rfl
  · have e0 : ct (hob T A w c) (tiO T) = ct (hE T A w c i 0) (tiO T) := ct_cg (fun q _ => hE_0.symm)
    refine bnd_s (lp_fs (fun e => (nI (ct (hE T A w c i e) (tiO T)), nI (mxE T A w c i e), nI e)) (tiO T) (r := (nI (ct (hE T A w c i (tiO T)) (tiO T)), nI (mxE T A w c i (tiO T)), nI (tiO T))) (fun e he => ?_) ?_ |> fun h => (by rw [← e0] at h; exact h)) rfl
    · have hE' := tE_lt hT he
      have hm := mxE_le (A := A) (w := w) (c := c) (i := i) hT e
      have hc1 := ct_le (fun q => hE T A w c i e q || decide (q = tiE T e)) (tiO T)
      have q1 := c1_e (A := A) (w := w) (c := c) (i := i) hT he
      have q2 := c2_e (A := A) (w := w) (c := c) (i := i) hT he
      refine it_p (by rw [cT.1.2.1]; exact nI_lt he (by omega)) (bnd_s (rd_v e rfl (by omega) (by omega) (cT.2.2.2.2.2.2 e he)) (bnd_s (rd_v _ rfl (by omega) (by omega) (cP.2.2.2.2.2.1 _ hE')) (bnd_s (hb_s gts_16 (by omega)) ?_)))
      dsimp only
      rw [mxE]
      cases hb : (gts T A w (tiE T e)).testBit i
      · refine bnd_s (it_p (by simp) rfl) ?_
        dsimp only
        rw [nI_1, ct_cg (c3_e (A := A) (w := w) (c := c) hT he hb)]
        rfl
      · have hy := hob_yes (A := A) (w := w) (c := c) hb
        refine bnd_s (a := (nI (ct (hE T A w c i (e + 1)) (tiO T)), nI (max (mxE T A w c i e) (ct (fun q => hE T A w c i e q || decide (q = tiE T e)) (tiO T))))) (it_n (by simp) (bnd_s (ho_c hT cP hE') (bnd_s (a := nI (ct (fun q => hE T A w c i e q || decide (q = tiE T e)) (tiO T))) ?_ ?_))) ?_
        · cases hh : hob T A w c (tiE T e)
          · rw [hh] at q1
            refine it_p (by simp) ?_
            rw [nI_1]
            congr 2
            simpa using q1.symm
          · rw [hh] at q1
            refine it_n (by simp) ?_
            congr 2
            simp at q1
            omega
        · rw [b_one (by omega), b_lor]
          refine bnd_s (iw_c hT cP hE') ?_
          rw [imax_n (by omega) (by omega)]
          rw [hy] at q2
          cases hh : whb T A w (c ||| 2 ^ i) (tiE T e)
          · rw [hh] at q2
            refine it_p (by simp) ?_
            congr 3
            simp at q2
            omega
          · rw [hh] at q2
            refine it_n (by simp) ?_
            simp at q2
            rw [← q2, pk_m1]
        · dsimp only
          rw [nI_1]
          rfl
    · exact it_n (by rw [cT.1.2.1]; exact nI_nlt (Nat.le_refl _) (by omega)) rfl
theorem na_l (hT : GT T) (cT : CT I t T) (cP : CPk I p T A w l) (hll : l.length ≤ 10) (hl10 : ∀ i, i ∈ l → i < 10) : ∀ (rest dn : List Nat) (c M : Nat), l = dn ++ rest → M ≤ 16 → ∃ r, lp (b_X1_needsAsPicked_7 p t I) (nI M, nI c, nI dn.length) = some r ∧ r.1 = nI (nds T A w rest c M) := by
  intro rest
  induction rest with
  | nil =>
    intro dn c M hl hM
    rw [List.append_nil] at hl
    have hd := congrArg List.length hl
    exact ⟨_, lp_done (it_n (by rw [cP.2.1]; exact nI_nlt (by omega) (by omega)) rfl), rfl⟩
  | cons i rest ih =>
    intro dn c M hl hM
    have hli : l[dn.length]? = some i := by rw [hl, List.getElem?_append_right (Nat.le_refl _), Nat.sub_self]; rfl
    have hlt := ls_lt hli
    have hi := hl10 i (List.mem_of_getElem? hli)
    have f1 := cP.2.2.1 _ _ hli
    rw [Nat.zero_add] at f1
    have hm := mxE_le (A := A) (w := w) (c := c) (i := i) hT (tiO T)
    obtain ⟨r, hr1, hr2⟩ := ih (dn ++ [i]) (c ||| 2 ^ i) (max M (mxE T A w c i (tiO T))) (by rw [hl, List.append_assoc]; rfl) (by omega)
    refine ⟨r, lp_next (it_p (by rw [cP.2.1]; exact nI_lt hlt (by omega)) (bnd_s (rd_v _ rfl (by omega) (by omega) f1) (bnd_s (pe_c hT cT cP hi) (bnd_s (rd_v _ rfl (by omega) (by omega) f1) ?_)))) hr1, hr2⟩
    dsimp only
    rw [imax_n (by omega) (by omega), b_one (by omega), b_lor, nI_1, List.length_append, List.length_singleton]
theorem na_c (hT : GT T) (cT : CT I t T) (cP : CPk I p T A w l) (hll : l.length ≤ 10) (hl10 : ∀ i, i ∈ l → i < 10) : f_X1_needsAsPicked p t I = some (nI (nds T A w l 0 0)) := by
  unfold f_X1_needsAsPicked
  obtain ⟨r, hr1, hr2⟩ := na_l hT cT cP hll hl10 l [] 0 0 rfl (by omega)
  exact bnd_s hr1 (congrArg some hr2)
end Pk2
