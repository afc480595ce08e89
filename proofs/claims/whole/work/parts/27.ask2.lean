/-! alike, stuck, count, order -/
theorem nI_p0 {n : Nat} (h : n < 2 ^ 31) : (0 : Int32) < nI n ↔ 0 < n := by
  have := nI_ltI (a := 0) (b := n) (by omega) h
  rw [nI_0] at this
  exact this
theorem bs_and (p q : Nat → Bool) (n : Nat) : bs p n &&& bs q n = bs (fun i => p i && q i) n := by
  refine Nat.eq_of_testBit_eq (fun i => ?_)
  rw [Nat.testBit_and, bs_t, bs_t, bs_t]
  cases decide (i < n) <;> cases p i <;> cases q i <;> rfl
section Ask2
variable {x t u : Nat} {z : Sh} {I : MI} {J : MJ} {D : Dt}
theorem q_alike (hg : GD D) (hc : CW x t z I D) (hm : MW (x + 46) I D) (p q : Int32) : ∃ v, f_X4_alike x t u p q I = some v ∧ f_X5_alike (x + 46) p q J I = some (v, mst I (x + 46) 0 0) := by
  have hK := hm.thr (v := 0)
  have hO := hg.1.2.1
  have e2 := hc.1.1.2.1
  have e4 := hK.1.1.2.1
  unfold f_X4_alike f_X5_alike
  have hp := pk_ix p (n := tiO D.1) (by omega)
  rw [← or_assoc] at hp
  rcases hp with h | ⟨a, ha, rfl⟩
  · exact ⟨-1, bnd_s (co_no e2 h) (it_p rfl rfl), bnd_s rfl (bnd_s (mo_no e4 (by omega) h) (bnd_s (it_p rfl rfl) rfl))⟩
  have hq := pk_ix q (n := tiO D.1) (by omega)
  rw [← or_assoc] at hq
  rcases hq with h | ⟨b, hb, rfl⟩
  · exact ⟨-1, bnd_s (co_yes e2 (by omega) ha) (it_n (by decide) (bnd_s (co_no e2 h) (it_p rfl rfl))), bnd_s rfl (bnd_s (mo_yes e4 (by omega) ha) (bnd_s (it_n (by decide) (bnd_s (mo_no e4 (by omega) h) (it_p rfl rfl))) rfl))⟩
  refine ⟨nI (ct (fun i => decide (0 < tiN D.1 (10 * a + i)) && decide (0 < tiN D.1 (10 * b + i))) 10), bnd_s (co_yes e2 (by omega) ha) (it_n (by decide) (bnd_s (co_yes e2 (by omega) hb) (it_n (by decide) ?_))), bnd_s rfl (bnd_s (mo_yes e4 (by omega) ha) (bnd_s (it_n (by decide) (bnd_s (mo_yes e4 (by omega) hb) (it_n (by decide) (bnd_s ?_ rfl)))) rfl))⟩
  · refine bnd_s (rd_v a rfl (by omega) (by omega) (hc.1.2.2.2.2.2.1 a (by omega))) (bnd_s (rd_v b rfl (by omega) (by omega) (hc.1.2.2.2.2.2.1 b (by omega))) ?_)
    rw [b_land, bs_and]
    exact bnd_s (bc_s (bs_16 (by omega))) (by rw [pop_bs (by omega)])
  · unfold f_X5_alikeOf
    refine bnd_s (lp_fs (fun k => (nI (ct (fun i => decide (0 < tiN D.1 (10 * a + i)) && decide (0 < tiN D.1 (10 * b + i))) k), nI k)) 10 (r := (nI (ct (fun i => decide (0 < tiN D.1 (10 * a + i)) && decide (0 < tiN D.1 (10 * b + i))) 10), nI 10)) (fun k hk => ?_) ?_) rfl
    · refine it_p (nI_lt (b := 10) hk (by omega)) ?_
      have na := (hg.1.2.2.2.2.2.2.2.1 (10 * a + k) (by omega)).1
      have nb := (hg.1.2.2.2.2.2.2.2.1 (10 * b + k) (by omega)).1
      refine bnd_s (rd_v (10 * a + k) (ci_m a k) (by omega) (by omega) (hK.1.2.2.2 _ (by omega))) ?_
      dsimp only
      rw [ct]
      by_cases h1 : 0 < tiN D.1 (10 * a + k)
      · by_cases h2 : 0 < tiN D.1 (10 * b + k)
        · refine bnd_s (it_p ((nI_p0 (by omega)).mpr h1) (bnd_s (rd_v (10 * b + k) (ci_m b k) (by omega) (by omega) (hK.1.2.2.2 _ (by omega))) (it_p ((nI_p0 (by omega)).mpr h2) rfl))) ?_
          rw [nI_1, nI_1]
          simp [h1, h2]
        · refine bnd_s (it_p ((nI_p0 (by omega)).mpr h1) (bnd_s (rd_v (10 * b + k) (ci_m b k) (by omega) (by omega) (hK.1.2.2.2 _ (by omega))) (it_n (fun w => h2 ((nI_p0 (by omega)).mp w)) rfl))) ?_
          rw [nI_1, show ∀ y : Int32, y + 0 = y from fun y => by grind]
          simp [h1, h2]
      · refine bnd_s (it_n (fun w => h1 ((nI_p0 (by omega)).mp w)) rfl) ?_
        rw [nI_1, show ∀ y : Int32, y + 0 = y from fun y => by grind]
        simp [h1]
    · exact it_n (nI_nlt (a := 10) (b := 10) (by omega) (by omega)) rfl
def stk (T : Tx) (A : Fl) (o : Nat) : Bool := decide (flW A o = 2) && decide (nI (sm (flA A) (10 * o) 10) + nI (sm (flL A) (10 * o) 10) = nI (tot T o))
theorem i_or0 (y : Int32) : y ||| 0 = y := by grind
theorem q_stuck (hg : GD D) (hc : CW x t z I D) (hm : MW (x + 46) I D) : ∃ v, f_X4_stuck x t u I = some v ∧ f_X5_stuck (x + 46) J I = some (v, mst I (x + 46) 0 0) := by
  have hK := hm.thr (v := 0)
  have hO := hg.1.2.1
  have e2 := hc.1.1.2.1
  have e4 := hK.1.1.2.1
  refine ⟨nI (bs (stk D.1 D.2.1) (tiO D.1)), ?_, ?_⟩
  · unfold f_X4_stuck
    refine bnd_s (lp_fs (fun k => (nI (bs (stk D.1 D.2.1) k), nI k)) (tiO D.1) (r := (nI (bs (stk D.1 D.2.1) (tiO D.1)), nI (tiO D.1))) (fun k hk => ?_) ?_) rfl
    · refine it_p (by rw [e2]; exact nI_lt hk (by omega)) ?_
      have e := bs_step (p := stk D.1 D.2.1) (k := k) (by omega)
      have hw := (hg.2.1.1.2.1 k (by omega)).1
      have hst : f_X0_isStuck (x + 24) t (nI k) I = some (if stk D.1 D.2.1 k then 1 else 0) := by
        unfold f_X0_isStuck stk
        refine bnd_s (rd_v k rfl (by omega) (by omega) (hc.2.1.2.1 k (by omega))) ?_
        by_cases h2 : flW D.2.1 k = 2
        · by_cases h3 : nI (sm (flA D.2.1) (10 * k) 10) + nI (sm (flL D.2.1) (10 * k) 10) = nI (tot D.1 k)
          · refine bnd_s (it_p (by rw [h2]; rfl) (bnd_s (so_s hc.2.1.2.2.2.2.1 (by omega)) (bnd_s (so_s hc.2.1.2.2.2.2.2.1 (by omega)) (bnd_s (rd_v k rfl (by omega) (by omega) (hc.1.2.2.2.2.1 k (by omega))) (it_p h3 rfl))))) ?_
            rw [decide_eq_true h2, decide_eq_true h3]; rfl
          · refine bnd_s (it_p (by rw [h2]; rfl) (bnd_s (so_s hc.2.1.2.2.2.2.1 (by omega)) (bnd_s (so_s hc.2.1.2.2.2.2.2.1 (by omega)) (bnd_s (rd_v k rfl (by omega) (by omega) (hc.1.2.2.2.2.1 k (by omega))) (it_n h3 rfl))))) ?_
            rw [decide_eq_true h2, decide_eq_false h3]; rfl
        · refine bnd_s (it_n (fun w => h2 ((nI_eq (b := 2) (by omega) (by omega)).mp w)) rfl) ?_
          rw [decide_eq_false h2]; rfl
      refine bnd_s hst ?_
      dsimp only
      cases hs : stk D.1 D.2.1 k
      · refine bnd_s (it_p rfl rfl) ?_
        rw [hs] at e
        simp only [Bool.false_eq_true, if_false] at e
        rw [i_or0] at e
        rw [e, nI_1]
      · refine bnd_s (it_n (by decide) rfl) ?_
        rw [hs] at e
        simp only [if_true] at e
        rw [e, nI_1]
    · exact it_n (by rw [e2]; exact nI_nlt (Nat.le_refl _) (by omega)) rfl
  · unfold f_X5_stuck
    refine bnd_s rfl ?_
    refine bnd_s (lp_fs (fun k => (nI (bs (stk D.1 D.2.1) k), nI k)) (tiO D.1) (r := (nI (bs (stk D.1 D.2.1) (tiO D.1)), nI (tiO D.1))) (fun k hk => ?_) ?_) rfl
    · refine bnd_s (rd_v 0 rfl (by omega) (by omega) e4) (it_p (nI_lt hk (by omega)) ?_)
      have e := bs_step (p := stk D.1 D.2.1) (k := k) (by omega)
      have hw := (hg.2.1.1.2.1 k (by omega)).1
      refine bnd_s (rd_v (330 + k) (ci_a rfl k) (by omega) (by omega) (hK.2.1.2.1 k (by omega))) ?_
      dsimp only
      by_cases h2 : flW D.2.1 k = 2
      · by_cases h3 : nI (sm (flA D.2.1) (10 * k) 10) + nI (sm (flL D.2.1) (10 * k) 10) = nI (tot D.1 k)
        · refine bnd_s (it_p (by rw [h2]; rfl) (bnd_s (ms_s (k := 170) rfl hK.2.1.2.2.2.2.2.1 (by omega) (by omega)) (bnd_s (mn_s hK.1.2.2.2 (by omega)) (bnd_s (ms_s (k := 10) rfl hK.2.1.2.2.2.2.1 (by omega) (by omega)) (it_p (by unfold tot at h3; grind) rfl))))) ?_
          have hs : stk D.1 D.2.1 k = true := by unfold stk; rw [decide_eq_true h2, decide_eq_true h3]; rfl
          rw [hs] at e
          simp only [if_true] at e
          rw [e, nI_1]
        · refine bnd_s (it_p (by rw [h2]; rfl) (bnd_s (ms_s (k := 170) rfl hK.2.1.2.2.2.2.2.1 (by omega) (by omega)) (bnd_s (mn_s hK.1.2.2.2 (by omega)) (bnd_s (ms_s (k := 10) rfl hK.2.1.2.2.2.2.1 (by omega) (by omega)) (it_n (by unfold tot at h3; grind) rfl))))) ?_
          have hs : stk D.1 D.2.1 k = false := by unfold stk; rw [decide_eq_true h2, decide_eq_false h3]; rfl
          rw [hs] at e
          simp only [Bool.false_eq_true, if_false] at e
          rw [e, nI_1]
      · refine bnd_s (it_n (fun w => h2 ((nI_eq (b := 2) (by omega) (by omega)).mp w)) rfl) ?_
        have hs : stk D.1 D.2.1 k = false := by unfold stk; rw [decide_eq_false h2]; rfl
        rw [hs] at e
        simp only [Bool.false_eq_true, if_false] at e
        rw [e, nI_1]
    · exact bnd_s (rd_v 0 rfl (by omega) (by omega) e4) (it_n (nI_nlt (Nat.le_refl _) (by omega)) rfl)
theorem q_count (hg : GD D) (hc : CW x t z I D) (hm : MW (x + 46) I D) (p : Int32) : ∃ v, f_X4_count x t u p I = some v ∧ f_X5_count (x + 46) p J I = some (v, mst I (x + 46) 0 0) := by
  have hK := hm.thr (v := 0)
  have hO := hg.1.2.1
  have hw : ∀ o, o < 16 → flW D.2.1 o ≤ 4 := fun o ho => (hg.2.1.1.2.1 o ho).1
  unfold f_X4_count f_X5_count
  by_cases h0 : p = 0
  · exact ⟨nI (tiI D.1), it_p h0 (congrArg some hc.1.1.1), bnd_s rfl (it_p h0 (bnd_s (rd_v 0 rfl (by omega) (by omega) hK.1.1.1) rfl))⟩
  by_cases h1 : p = 1
  · exact ⟨nI (tiO D.1), it_n h0 (it_p h1 (congrArg some hc.1.1.2.1)), bnd_s rfl (it_n h0 (it_p h1 (bnd_s (rd_v 0 rfl (by omega) (by omega) hK.1.1.2.1) rfl)))⟩
  by_cases h2 : p = 2
  · exact ⟨nI (tiH D.1), it_n h0 (it_n h1 (it_p h2 (congrArg some hc.1.1.2.2.1))), bnd_s rfl (it_n h0 (it_n h1 (it_p h2 (bnd_s (rd_v 0 rfl (by omega) (by omega) hK.1.1.2.2.1) rfl))))⟩
  by_cases h3 : p = 3
  · exact ⟨_, it_n h0 (it_n h1 (it_n h2 (it_p h3 (bnd_s (fc_s hc.1 hc.2.1 hg.1.2.2.1.2 hg.2.1.1.2.2.1) rfl)))), bnd_s rfl (it_n h0 (it_n h1 (it_n h2 (it_p h3 (bnd_s (fm_s hK.1 hK.2.1 hg.1.2.2.1.2 hg.2.1.1.2.2.1) rfl)))))⟩
  by_cases h4 : p = 4
  · exact ⟨_, it_n h0 (it_n h1 (it_n h2 (it_n h3 (it_p h4 (bnd_s (wc_s hc.1 hc.2.1 hO hw) (bnd_s (bc_s (bs_16 hO)) rfl)))))), bnd_s rfl (it_n h0 (it_n h1 (it_n h2 (it_n h3 (it_p h4 (bnd_s (wm_s hK.1 hK.2.1 hO hw) (bnd_s (c1_s (bs_16 hO)) rfl)))))))⟩
  by_cases h5 : p = 5
  · refine ⟨nI (sa (flL D.2.1) 16), it_n h0 (it_n h1 (it_n h2 (it_n h3 (it_n h4 (it_p h5 (bnd_s (la_s hc.2.1.2.2.2.2.2.1) rfl)))))), bnd_s rfl (it_n h0 (it_n h1 (it_n h2 (it_n h3 (it_n h4 (it_p h5 ?_))))))⟩
    have e := sa_z (g := flL D.2.1) (n := tiO D.1) (fun o i h1 h2 h3 => (late_z hg.2.1.1 h1 h2 h3).1) (16 - tiO D.1) (by omega)
    rw [show tiO D.1 + (16 - tiO D.1) = 16 by omega] at e
    rw [e]
    exact bnd_s (ma_s hK.1.1.2.1 hO hK.2.1.2.2.2.2.2.1) rfl
  by_cases h6 : p = 6
  · exact ⟨nI D.2.2.2.2.1.length, it_n h0 (it_n h1 (it_n h2 (it_n h3 (it_n h4 (it_n h5 (it_p h6 (congrArg some hc.2.2.2.2.1))))))), bnd_s rfl (it_n h0 (it_n h1 (it_n h2 (it_n h3 (it_n h4 (it_n h5 (it_p h6 (by rw [hK.2.2.2.2.1]))))))))⟩
  by_cases h7 : p = 7
  · exact ⟨nI D.2.2.1, it_n h0 (it_n h1 (it_n h2 (it_n h3 (it_n h4 (it_n h5 (it_n h6 (it_p h7 (congrArg some hc.2.2.1.1)))))))), bnd_s rfl (it_n h0 (it_n h1 (it_n h2 (it_n h3 (it_n h4 (it_n h5 (it_n h6 (it_p h7 (by rw [hK.2.2.1.1])))))))))⟩
  by_cases h8 : p = 8
  · exact ⟨nI (tiW D.1), it_n h0 (it_n h1 (it_n h2 (it_n h3 (it_n h4 (it_n h5 (it_n h6 (it_n h7 (it_p h8 (congrArg some hc.1.1.2.2.2.1))))))))), bnd_s rfl (it_n h0 (it_n h1 (it_n h2 (it_n h3 (it_n h4 (it_n h5 (it_n h6 (it_n h7 (it_p h8 (bnd_s (rd_v 0 rfl (by omega) (by omega) hK.1.1.2.2.2.1) rfl))))))))))⟩
  by_cases h9 : p = 9
  · exact ⟨nI (tiU D.1), it_n h0 (it_n h1 (it_n h2 (it_n h3 (it_n h4 (it_n h5 (it_n h6 (it_n h7 (it_n h8 (it_p h9 (congrArg some hc.1.1.2.2.2.2)))))))))), bnd_s rfl (it_n h0 (it_n h1 (it_n h2 (it_n h3 (it_n h4 (it_n h5 (it_n h6 (it_n h7 (it_n h8 (it_p h9 (bnd_s (rd_v 0 rfl (by omega) (by omega) hK.1.1.2.2.2.2) rfl)))))))))))⟩
  · exact ⟨-1, it_n h0 (it_n h1 (it_n h2 (it_n h3 (it_n h4 (it_n h5 (it_n h6 (it_n h7 (it_n h8 (it_n h9 rfl))))))))), bnd_s rfl (it_n h0 (it_n h1 (it_n h2 (it_n h3 (it_n h4 (it_n h5 (it_n h6 (it_n h7 (it_n h8 (it_n h9 rfl))))))))))⟩
end Ask2
