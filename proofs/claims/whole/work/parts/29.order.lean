/-! order: it may throw -/
theorem GZ.gr {x t u : Nat} {z : Sh} (h : GZ x t u z) (k : Nat) : GZ x t u (zGr z k) := by
  obtain ⟨h1, h2, h3, h4, h5, h6, h7⟩ := h
  refine ⟨h1, h2, h3, h4, Nat.le_trans h5 (Nat.le_add_right _ _), fun s a hs ha => ?_, h7⟩
  obtain ⟨a1, a2, a3⟩ := h6 s a hs ha
  exact ⟨a1, Nat.le_trans a2 (Nat.le_add_right _ _), a3⟩
theorem CU.gr {x ni : Nat} {z : Sh} {I : MI} {Us : List Fl} {Ks : Nat → Option Fl} (h : CU x ni z I Us Ks) (k : Nat) : CU x ni (zGr z k) I Us Ks := h
theorem Int32_lit {p : Int32} (h0 : 0 ≤ p.toInt) (h5 : p.toInt ≤ 5) : p = 0 ∨ p = 1 ∨ p = 2 ∨ p = 3 ∨ p = 4 ∨ p = 5 := by
  have e : ∀ k : Int32, k.toInt = p.toInt → p = k := fun k hk => Int32.toInt_inj.mp hk.symm
  have : p.toInt = 0 ∨ p.toInt = 1 ∨ p.toInt = 2 ∨ p.toInt = 3 ∨ p.toInt = 4 ∨ p.toInt = 5 := by omega
  rcases this with h | h | h | h | h | h
  · exact Or.inl (e 0 (by rw [h]; rfl))
  · exact Or.inr (Or.inl (e 1 (by rw [h]; rfl)))
  · exact Or.inr (Or.inr (Or.inl (e 2 (by rw [h]; rfl))))
  · exact Or.inr (Or.inr (Or.inr (Or.inl (e 3 (by rw [h]; rfl)))))
  · exact Or.inr (Or.inr (Or.inr (Or.inr (Or.inl (e 4 (by rw [h]; rfl))))))
  · exact Or.inr (Or.inr (Or.inr (Or.inr (Or.inr (e 5 (by rw [h]; rfl))))))
theorem w_05 (q : Int32) : f_X5_within q.toInt64 0 5 = some (if 0 ≤ q.toInt ∧ q.toInt ≤ 5 then 1 else 0) := by
  rw [z_64, show (5 : Int64) = (5 : Int32).toInt64 by decide, wi_32]
  have l0 : q < 0 ↔ q.toInt < 0 := Int32.lt_iff_toInt_lt
  have l5 : 5 < q ↔ 5 < q.toInt := Int32.lt_iff_toInt_lt
  by_cases h : 0 ≤ q.toInt ∧ q.toInt ≤ 5
  · rw [if_pos h, if_neg (by rw [l0]; omega), if_neg (by rw [l5]; omega)]
  · rw [if_neg h]
    by_cases h1 : q < 0
    · rw [if_pos h1]
    · rw [if_neg h1, if_pos (by rw [l0] at h1; rw [l5]; omega)]
section Ord
variable {x t u : Nat} {z : Sh} {I : MI} {J : MJ} {D : Dt}
theorem q_order (hg : GD D) (hc : CW x t z I D) (hm : MW (x + 46) I D) (p q : Int32) : (∃ v, f_X4_order x t u p q I = some v ∧ ∀ J, f_X5_order (x + 46) p q J I = some (v, mst I (x + 46) 0 0)) ∨ (Thr t p q I ∧ ∀ J, f_X5_order (x + 46) p q J I = some (0, mst I (x + 46) 0 1)) := by
  have hO := hg.1.2.1
  have e2 := hc.1.1.2.1
  have e4 := hm.1.1.2.1
  have hK := hm.thr (v := 0)
  have hp := pk_ix p (n := tiO D.1) (by omega)
  rw [← or_assoc] at hp
  have t1 : mst I (x + 46) 0 1 (x + 46) 0 = 1 := mst_self _ _ _ _
  have t0 : ¬ mst I (x + 46) 0 0 (x + 46) 0 = 1 := by rw [mst_self]; decide
  rcases hp with h | ⟨o, ho, rfl⟩
  · refine Or.inr ⟨Or.inl (co_no e2 h), fun J => ?_⟩
    unfold f_X5_order
    exact bnd_s (mo_no e4 (by omega) h) (bnd_s (it_p rfl rfl) (bnd_s rfl (it_p t1 rfl)))
  by_cases hq : 0 ≤ q.toInt ∧ q.toInt ≤ 5
  · have hw : f_X5_within q.toInt64 0 5 = some 1 := by rw [w_05, if_pos hq]
    have hx : ∀ {v : Int32}, (∀ J, (let K := mst I (x + 46) 0 0
      if q = 0 then (rd 32 (K (x + 46 + 11)) (nI o)).bind fun v10 => some ((v10, K)) else if q = 1 then (f_X5_needOf (x + 46) (nI o) J K).bind fun r12 => some ((r12, K)) else if q = 2 then (f_X5_sumOf (x + 46) 10 (nI o) J K).bind fun r14 => some ((r14, K)) else if q = 3 then (f_X5_sumOf (x + 46) 170 (nI o) J K).bind fun r16 => some ((r16, K)) else if q = 4 then (rd 2117 (K (x + 46 + 13)) (330 + nI o)).bind fun v18 => some ((v18, K)) else (rd 2117 (K (x + 46 + 13)) (346 + nI o)).bind fun v19 => some ((v19, K))) = some (v, mst I (x + 46) 0 0)) → ∀ J, f_X5_order (x + 46) (nI o) q J I = some (v, mst I (x + 46) 0 0) := by
      intro v h J
      unfold f_X5_order
      exact bnd_s (mo_yes e4 (by omega) ho) (bnd_s (it_n (by decide) (bnd_s hw (it_n (by decide) rfl))) (bnd_s rfl (it_n t0 (h J))))
    have hy : ∀ {v : Int32}, (if q = 0 then (rd 16 (I (t + 5)) (nI o)).bind fun v4 => some v4 else if q = 1 then (rd 16 (I (t + 7)) (nI o)).bind fun v6 => some v6 else if q = 2 then (f_X4_sumOfOrder (x + 24 + 5) 160 (nI o) I).bind fun r8 => some r8 else if q = 3 then (f_X4_sumOfOrder (x + 24 + 6) 160 (nI o) I).bind fun r10 => some r10 else if q = 4 then (rd 16 (I (x + 24 + 2)) (nI o)).bind fun v12 => some v12 else if q = 5 then (rd 16 (I (x + 24 + 3)) (nI o)).bind fun v14 => some v14 else none) = some v → f_X4_order x t u (nI o) q I = some v := by
      intro v h
      unfold f_X4_order
      exact bnd_s (co_yes e2 (by omega) ho) (it_n (by decide) h)
    refine Or.inl ?_
    rcases Int32_lit hq.1 hq.2 with rfl | rfl | rfl | rfl | rfl | rfl
    · refine ⟨nI (tiD D.1 o), hy (it_p rfl (bnd_s (rd_v o rfl (by omega) (by omega) (hc.1.2.2.1 o ho)) rfl)), hx (fun J => it_p rfl (bnd_s (rd_v o rfl (by omega) (by omega) (hK.1.2.2.1 o ho)) rfl))⟩
    · refine ⟨nI (tot D.1 o), hy (it_n (by decide) (it_p rfl (bnd_s (rd_v o rfl (by omega) (by omega) (hc.1.2.2.2.2.1 o (by omega))) rfl))), hx (fun J => it_n (by decide) (it_p rfl (bnd_s (mn_s hK.1.2.2.2 (by omega)) rfl)))⟩
    · refine ⟨_, hy (it_n (by decide) (it_n (by decide) (it_p rfl (bnd_s (so_s hc.2.1.2.2.2.2.1 (by omega)) rfl)))), hx (fun J => it_n (by decide) (it_n (by decide) (it_p rfl (bnd_s (ms_s (k := 10) rfl hK.2.1.2.2.2.2.1 (by omega) (by omega)) rfl))))⟩
    · refine ⟨_, hy (it_n (by decide) (it_n (by decide) (it_n (by decide) (it_p rfl (bnd_s (so_s hc.2.1.2.2.2.2.2.1 (by omega)) rfl))))), hx (fun J => it_n (by decide) (it_n (by decide) (it_n (by decide) (it_p rfl (bnd_s (ms_s (k := 170) rfl hK.2.1.2.2.2.2.2.1 (by omega) (by omega)) rfl)))))⟩
    · refine ⟨nI (flW D.2.1 o), hy (it_n (by decide) (it_n (by decide) (it_n (by decide) (it_n (by decide) (it_p rfl (bnd_s (rd_v o rfl (by omega) (by omega) (hc.2.1.2.1 o (by omega))) rfl)))))), hx (fun J => it_n (by decide) (it_n (by decide) (it_n (by decide) (it_n (by decide) (it_p rfl (bnd_s (rd_v (330 + o) (ci_a rfl o) (by omega) (by omega) (hK.2.1.2.1 o (by omega))) rfl))))))⟩
    · refine ⟨nI (flH D.2.1 o) - 1, hy (it_n (by decide) (it_n (by decide) (it_n (by decide) (it_n (by decide) (it_n (by decide) (it_p rfl (bnd_s (rd_v o rfl (by omega) (by omega) (hc.2.1.2.2.1 o (by omega))) rfl))))))), hx (fun J => it_n (by decide) (it_n (by decide) (it_n (by decide) (it_n (by decide) (it_n (by decide) (bnd_s (rd_v (346 + o) (ci_a rfl o) (by omega) (by omega) (hK.2.1.2.2.1 o (by omega))) rfl))))))⟩
  · refine Or.inr ⟨Or.inr ⟨⟨1, co_yes e2 (by omega) ho, by decide⟩, by omega⟩, fun J => ?_⟩
    unfold f_X5_order
    exact bnd_s (mo_yes e4 (by omega) ho) (bnd_s (it_n (by decide) (bnd_s (w_05 q) (it_p (if_neg hq) rfl))) (bnd_s rfl (it_p t1 rfl)))
end Ord
theorem case_3 {x L : Nat} {xs : Nat → Int32} (hL : L ≤ 3072) : Case3Ok x (x + 46) (x + 69) (Inv x) L xs := by
  rintro t u z J I k ⟨D, hg, hz, hc, hm⟩ hk
  have r1 := sc_rd (xs := xs) (d := 1) (j := 1) rfl (by omega) hk hL
  have r2 := sc_rd (xs := xs) (d := 2) (j := 2) rfl (by omega) hk hL
  refine ⟨_, _, r1, r2, ?_⟩
  rcases q_order (u := u) hg hc hm (xs (6 * k + 1)) (xs (6 * k + 2)) with ⟨v, h1, h2⟩ | ⟨h1, h2⟩
  · refine Or.inl ⟨v, z, mst J (x + 69) 0 v.toInt64, mst I (x + 46) 0 0, h1, ?_, t, u, Inv.ask hg hz hc hm⟩
    unfold f_Lt_3
    refine bnd_s r1 (bnd_s r2 (bnd_s (h2 _) (bnd_s rfl ?_)))
    refine it_p (mst_self _ _ _ _) (it_p rfl ?_)
    refine bnd_s (rd_v 0 rfl (by omega) (by omega) (mst_self _ _ _ _)) ?_
    exact it_p rfl rfl
  · refine Or.inr ⟨h1, fun g => ⟨zGr z g, J, mst I (x + 46) 0 1, ?_, t, u, ?_⟩⟩
    · unfold f_Lt_3
      refine bnd_s r1 (bnd_s r2 (bnd_s (h2 _) (bnd_s rfl ?_)))
      exact it_p (mst_self _ _ _ _) (it_n (by decide) rfl)
    · exact ⟨D, hg, hz.gr g, hc.md hz Md.thr, hm.thr⟩
