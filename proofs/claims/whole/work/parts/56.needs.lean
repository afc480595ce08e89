/-! holes needed: the reference -/
def gtt (T : Tx) (A : Fl) (w c o : Nat) : Nat := sm (fun q => if c.testBit (q % 10) then shc T A w q else 0) (10 * o) 10
section Nd
variable {T : Tx} {A : Fl} {w : Nat}
theorem gtt_le (hT : GT T) {c o : Nat} : gtt T A w c o ≤ sm (shc T A w) (10 * o) 10 ∧ sm (shc T A w) (10 * o) 10 ≤ tot T o := by
  refine ⟨sm_mono (fun i hi => ?_), sm_mono (fun i hi => shc_le hT)⟩
  split <;> omega
theorem gtt_add {c i o : Nat} (hi : i < 10) (h : c.testBit i = false) : gtt T A w (c ||| 2 ^ i) o = gtt T A w c o + shc T A w (10 * o + i) := by
  have h1 : gtt T A w (c ||| 2 ^ i) o = sm (pu (fun q => if c.testBit (q % 10) then shc T A w q else 0) (10 * o + i) (shc T A w (10 * o + i))) (10 * o) 10 := by
    refine sm_eq (fun j hj => ?_)
    by_cases e : j = i
    · rw [e, pu_s, show (10 * o + i) % 10 = i by omega, Nat.testBit_or, Nat.testBit_two_pow]
      simp
    · rw [pu_n (by omega), show (10 * o + j) % 10 = j by omega, Nat.testBit_or, Nat.testBit_two_pow]
      have : ¬ i = j := fun q => e q.symm
      simp [this]
  have h2 := sm_pu (g := fun q => if c.testBit (q % 10) then shc T A w q else 0) (a := 10 * o) (n := 10) (c := 10 * o + i) (v := shc T A w (10 * o + i)) (by omega) (by omega)
  rw [← h1] at h2
  rw [show (10 * o + i) % 10 = i by omega, h] at h2
  have h3 : gtt T A w c o = sm (fun q => if c.testBit (q % 10) = true then shc T A w q else 0) (10 * o) 10 := rfl
  rw [h3]
  simpa using h2
theorem gts_t {o i : Nat} (hi : i < 10) : (gts T A w o).testBit i = decide (0 < shc T A w (10 * o + i)) := by
  unfold gts
  rw [bs_t]
  simp [hi]
theorem gtt_w (hT : GT T) {c o : Nat} : gtt T A w c o = tot T o ↔ whb T A w c o = true := by
  have hle := gtt_le (A := A) (w := w) (c := c) (o := o) hT
  unfold whb
  rw [Bool.and_eq_true, decide_eq_true_eq, decide_eq_true_eq]
  constructor
  · intro h
    refine ⟨by omega, Nat.eq_of_testBit_eq (fun i => ?_)⟩
    rw [Nat.zero_testBit, df_t]
    cases hg : (gts T A w o).testBit i
    · rfl
    · have hi : i < 10 := by
        unfold gts at hg
        rw [bs_t, Bool.and_eq_true, decide_eq_true_eq] at hg
        exact hg.1
      rw [gts_t hi, decide_eq_true_eq] at hg
      cases hc : c.testBit i
      · have := sm_lt (g := fun q => if c.testBit (q % 10) then shc T A w q else 0) (g' := shc T A w) (a := 10 * o) (a' := 10 * o) (n := 10) (k := i) (fun j hj => by split <;> omega) hi (by rw [show (10 * o + i) % 10 = i by omega, hc]; exact hg)
        have h3 : gtt T A w c o < sm (shc T A w) (10 * o) 10 := this
        omega
      · rfl
  · rintro ⟨h1, h2⟩
    rw [← h1]
    refine sm_eq (fun i hi => ?_)
    rw [show (10 * o + i) % 10 = i by omega]
    cases hc : c.testBit i
    · have : (df (gts T A w o) c).testBit i = false := by rw [h2, Nat.zero_testBit]
      rw [df_t, hc, gts_t hi] at this
      simp at this
      simp [this]
    · rfl
theorem ct_mx (hT : GT T) {c i : Nat} : ∀ e, e ≤ tiO T → ct (hE T A w c i e) (tiO T) ≤ mxE T A w c i e := by
  intro e
  induction e with
  | zero =>
    intro _
    rw [mxE, ct_cg (fun q _ => hE_0)]
    exact Nat.le_refl _
  | succ e ih =>
    intro he
    rw [mxE]
    cases hb : (gts T A w (tiE T e)).testBit i
    · rw [if_neg (by simp), ct_cg (c3_e (A := A) (w := w) (c := c) hT (by omega) hb)]
      exact ih (by omega)
    · rw [if_pos rfl]
      have := c2_e (A := A) (w := w) (c := c) (i := i) hT (show e < tiO T by omega)
      have h1 := Bool.toNat_le (hob T A w (c ||| 2 ^ i) (tiE T e))
      omega
theorem bs_df1 {p : Nat → Bool} {n o : Nat} : df (bs p n) (2 ^ o) = bs (fun q => p q && decide (q ≠ o)) n := by
  refine Nat.eq_of_testBit_eq (fun i => ?_)
  rw [df_t, bs_t, bs_t, Nat.testBit_two_pow]
  by_cases e : i = o
  · rw [e]; simp
  · have : ¬ o = i := fun q => e q.symm
    simp [e, this]
variable {m : Nat} {J : MJ}
/-- the units of one order of one item -/
theorem nu_m {K : MI} {i o a M G C : Nat} {p : Nat → Bool} (hT : GT T) (cT : MT K m T) (hi : i < 10) (ho : o < tiO T) (ha : a ≤ 1000) (hM : M ≤ 16) (hG : K (m + 20) o = nI G) (hGt : G + min a (tiN T (10 * o + i)) ≤ tot T o) (hC : C = ct (fun q => p q || decide (q = o)) (tiO T)) : Ok (lp (b_X5_needsBy_79 m J (nI i) (nI o)) (nI (bs p (tiO T)), nI M, nI a, 0, K)) (fun r => ∃ K', r.1 = nI (bs (fun q => if q = o then (if min a (tiN T (10 * o + i)) = 0 then p o else decide (G + min a (tiN T (10 * o + i)) ≠ tot T o)) else p q) (tiO T)) ∧ r.2.1 = nI (if min a (tiN T (10 * o + i)) = 0 then M else max M C) ∧ r.2.2.1 = nI (a - min a (tiN T (10 * o + i))) ∧ r.2.2.2.2 = K' ∧ K' (m + 20) = pu (K (m + 20)) o (nI (G + min a (tiN T (10 * o + i)))) ∧ ∀ b, b ≠ m + 20 → K' b = K b) := by
  have hO := hT.2.1
  have ht := (hT.2.2.2.2.2.2.2.2.1 o (by omega)).1
  have hn9 := (hT.2.2.2.2.2.2.2.1 (10 * o + i) (by omega)).1
  have hC16 : C ≤ 16 := by
    have := ct_le (fun q => p q || decide (q = o)) (tiO T)
    omega
  obtain ⟨g, hg⟩ : ∃ g, g = min a (tiN T (10 * o + i)) := ⟨_, rfl⟩
  rw [← hg] at hGt ⊢
  refine ok_up g (fun k s => ∃ K', s = (nI (bs (fun q => if q = o then (if k = 0 then p o else decide (G + k ≠ tot T o)) else p q) (tiO T)), nI (if k = 0 then M else max M C), nI (a - k), nI k, K') ∧ K' (m + 20) = pu (K (m + 20)) o (nI (G + k)) ∧ ∀ b, b ≠ m + 20 → K' b = K b) (fun k s hk hs => ?_) (fun s hs => ?_) 0 _ (by omega) ⟨K, ?_, ?_, fun _ _ => rfl⟩
  · obtain ⟨K', rfl, q1, q2⟩ := hs
    have cT' : MT K' m T := cT.fr (fun r hr => q2 _ (by omega))
    have rN : rd 320 (K' (m + 12)) ((10 * nI o) + nI i) = some (nI (tiN T (10 * o + i))) := rd_v _ (ci_m o i) (by omega) (by omega) (cT'.2.2.2 _ (by omega))
    have hset : bs (fun q => if q = o then (if k = 0 then p o else decide (G + k ≠ tot T o)) else p q) (tiO T) ||| 2 ^ o = bs (fun q => p q || decide (q = o)) (tiO T) := by
      have := bs_or1 (p := fun q => if q = o then (if k = 0 then p o else decide (G + k ≠ tot T o)) else p q) (c := true) ho
      rw [if_pos rfl] at this
      rw [this]
      refine bs_cg (fun q _ => ?_)
      by_cases e : q = o
      · simp [e]
      · simp [e]
    refine ok_bs rN (ok_pos (nI_lt (by omega) (by omega)) (ok_pos ((nI_p0 (by omega)).mpr (by omega)) ?_))
    dsimp only
    rw [b_one (by omega), b_lor, hset]
    have hcnt : f_X5_count1 (nI (bs (fun q => p q || decide (q = o)) (tiO T))) = some (nI C) := by rw [c1_s (bs_16 hO), pop_bs hO, hC]
    refine ok_bs hcnt (ok_bs (a := nI (max M C)) ?_ ?_)
    · by_cases hk0 : k = 0
      · rw [if_pos hk0]
        by_cases q : C < M
        · rw [Nat.max_eq_left (by omega)]
          exact it_p (nI_lt q (by omega)) rfl
        · rw [Nat.max_eq_right (by omega)]
          exact it_n (nI_nlt (by omega) (by omega)) (bnd_s hcnt rfl)
      · rw [if_neg hk0]
        by_cases q : C < max M C
        · exact it_p (nI_lt q (by omega)) rfl
        · rw [show max M C = C by omega]
          exact it_n (nI_nlt (Nat.le_refl _) (by omega)) (bnd_s hcnt rfl)
    · refine ok_bs (rd_v (v := nI (G + k)) o rfl (by omega) (by omega) (by rw [q1, pu_s])) ?_
      rw [nI_1]
      refine ok_wr o rfl (by omega) (by omega) (ok_bs (rd_v (v := nI (G + k + 1)) o rfl (by omega) (by omega) (mst_self _ _ _ _)) (ok_bs (mn_s (cT'.fr (fun r hr => mst_row _ _ _ (by omega))).2.2.2 (by omega)) ?_))
      show Ok (Option.bind (if nI (G + k + 1) = nI (tot T o) then _ else _) _) _
      have fin : ∀ b, b ≠ m + 20 → mst K' (m + 20) o (nI (G + k + 1)) b = K b := fun b hb => by rw [mst_row _ _ _ hb]; exact q2 b hb
      have finr : mst K' (m + 20) o (nI (G + k + 1)) (m + 20) = pu (K (m + 20)) o (nI (G + (k + 1))) := by rw [ms_r, q1, pu_pu]; rfl
      have hm1 : nI (a - k) + (-1) = nI (a - (k + 1)) := by
        obtain ⟨j, hj⟩ : ∃ j, a - k = j + 1 := ⟨a - k - 1, by omega⟩
        rw [hj, pk_m1, show a - (k + 1) = j by omega]
      by_cases hf : G + k + 1 = tot T o
      · refine ok_bs (a := nI (bs (fun q => if q = o then decide (G + (k + 1) ≠ tot T o) else p q) (tiO T))) (it_p (by rw [hf]) (bnd_s rfl ?_)) (ok_some ⟨_, ?_, finr, fin⟩)
        · skip
          rw [b_df (by have := bs_16 (p := fun q => p q || decide (q = o)) hO; omega), bs_df1]
          congr 2
          refine bs_cg (fun q _ => ?_)
          by_cases e : q = o
          · simp [e]; omega
          · simp [e]
        · rw [hm1, nI_1, if_neg (by omega)]
          congr 2
      · refine ok_bs (a := nI (bs (fun q => if q = o then decide (G + (k + 1) ≠ tot T o) else p q) (tiO T))) (it_n (fun q => hf ((nI_eq (by omega) (by omega)).mp q)) ?_) (ok_some ⟨_, ?_, finr, fin⟩)
        · congr 2
          refine bs_cg (fun q _ => ?_)
          by_cases e : q = o
          · simp [e]; omega
          · simp [e]
        · rw [hm1, nI_1, if_neg (by omega)]
          congr 2
  · obtain ⟨K', rfl, q1, q2⟩ := hs
    have cT' : MT K' m T := cT.fr (fun r hr => q2 _ (by omega))
    refine ok_bs (rd_v _ (ci_m o i) (by omega) (by omega) (cT'.2.2.2 (10 * o + i) (by omega))) ?_
    by_cases h1 : g < tiN T (10 * o + i)
    · refine ok_pos (nI_lt h1 (by omega)) (ok_neg (fun q => ?_) (ok_some ⟨K', rfl, rfl, rfl, rfl, q1, q2⟩))
      have := (nI_p0 (by omega)).mp q
      omega
    · exact ok_neg (nI_nlt (by omega) (by omega)) (ok_some ⟨K', rfl, rfl, rfl, rfl, q1, q2⟩)
  · have : bs (fun q => if q = o then (if 0 = 0 then p o else decide (G + 0 ≠ tot T o)) else p q) (tiO T) = bs p (tiO T) := bs_cg (fun q _ => by by_cases e : q = o <;> simp [e])
    rw [this]
    rfl
  · show K (m + 20) = pu (K (m + 20)) o (nI G)
    rw [← hG]
    funext j
    unfold pu
    split
    · rename_i e; rw [e]
    · rfl
end Nd
