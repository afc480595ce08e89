/-! the law's cases that only ask -/
section Cases
variable {x L : Nat} {xs : Nat → Int32}
theorem case_2 (hL : L ≤ 3072) : CaseOk (Inv x) L (fun t u i z J I => f_Lc_2 x t u (x + 46) L xs i z J I) := by
  rintro t u z J I k ⟨D, hg, hz, hc, hm⟩ hk
  obtain ⟨v, h1, h2⟩ := q_item (u := u) (J := J) hg hc hm (xs (6 * k + 1)) (xs (6 * k + 2))
  refine ⟨z, J, mst I (x + 46) 0 0, t, u, ?_, Inv.ask hg hz hc hm⟩
  show f_Lc_2 x t u (x + 46) L xs (nI (6 * k)) z J I = _
  unfold f_Lc_2
  refine bnd_s (sc_rd (d := 1) (j := 1) rfl (by omega) hk hL) ?_
  refine bnd_s (sc_rd (d := 2) (j := 2) rfl (by omega) hk hL) ?_
  refine bnd_s h1 ?_
  refine bnd_s (sc_rd (d := 1) (j := 1) rfl (by omega) hk hL) ?_
  refine bnd_s (sc_rd (d := 2) (j := 2) rfl (by omega) hk hL) ?_
  refine bnd_s h2 ?_
  exact if_pos rfl
theorem case_4 (hL : L ≤ 3072) : CaseOk (Inv x) L (fun t u i z J I => f_Lc_4 x t u (x + 46) L xs i z J I) := by
  rintro t u z J I k ⟨D, hg, hz, hc, hm⟩ hk
  obtain ⟨v, h1, h2⟩ := q_units (u := u) (J := J) hg hc hm (xs (6 * k + 1)) (xs (6 * k + 2)) (xs (6 * k + 3))
  refine ⟨z, J, mst I (x + 46) 0 0, t, u, ?_, Inv.ask hg hz hc hm⟩
  show f_Lc_4 x t u (x + 46) L xs (nI (6 * k)) z J I = _
  unfold f_Lc_4
  refine bnd_s (sc_rd (d := 1) (j := 1) rfl (by omega) hk hL) ?_
  refine bnd_s (sc_rd (d := 2) (j := 2) rfl (by omega) hk hL) ?_
  refine bnd_s (sc_rd (d := 3) (j := 3) rfl (by omega) hk hL) ?_
  refine bnd_s h1 ?_
  refine bnd_s (sc_rd (d := 1) (j := 1) rfl (by omega) hk hL) ?_
  refine bnd_s (sc_rd (d := 2) (j := 2) rfl (by omega) hk hL) ?_
  refine bnd_s (sc_rd (d := 3) (j := 3) rfl (by omega) hk hL) ?_
  refine bnd_s h2 ?_
  exact if_pos rfl
theorem case_5 (hL : L ≤ 3072) : CaseOk (Inv x) L (fun t u i z J I => f_Lc_5 x t u (x + 46) L xs i z J I) := by
  rintro t u z J I k ⟨D, hg, hz, hc, hm⟩ hk
  obtain ⟨v, h1, h2⟩ := q_alike (u := u) (J := J) hg hc hm (xs (6 * k + 1)) (xs (6 * k + 2))
  refine ⟨z, J, mst I (x + 46) 0 0, t, u, ?_, Inv.ask hg hz hc hm⟩
  show f_Lc_5 x t u (x + 46) L xs (nI (6 * k)) z J I = _
  unfold f_Lc_5
  refine bnd_s (sc_rd (d := 1) (j := 1) rfl (by omega) hk hL) ?_
  refine bnd_s (sc_rd (d := 2) (j := 2) rfl (by omega) hk hL) ?_
  refine bnd_s h1 ?_
  refine bnd_s (sc_rd (d := 1) (j := 1) rfl (by omega) hk hL) ?_
  refine bnd_s (sc_rd (d := 2) (j := 2) rfl (by omega) hk hL) ?_
  refine bnd_s h2 ?_
  exact if_pos rfl
theorem case_14 (hL : L ≤ 3072) : CaseOk (Inv x) L (fun t u i z J I => f_Lc_14 x t u (x + 46) L xs i z J I) := by
  rintro t u z J I k ⟨D, hg, hz, hc, hm⟩ hk
  obtain ⟨v, h1, h2⟩ := q_belt (u := u) (J := J) hg hc hm (xs (6 * k + 1)) (xs (6 * k + 2))
  refine ⟨z, J, mst I (x + 46) 0 0, t, u, ?_, Inv.ask hg hz hc hm⟩
  show f_Lc_14 x t u (x + 46) L xs (nI (6 * k)) z J I = _
  unfold f_Lc_14
  refine bnd_s (sc_rd (d := 1) (j := 1) rfl (by omega) hk hL) ?_
  refine bnd_s (sc_rd (d := 2) (j := 2) rfl (by omega) hk hL) ?_
  refine bnd_s h1 ?_
  refine bnd_s (sc_rd (d := 1) (j := 1) rfl (by omega) hk hL) ?_
  refine bnd_s (sc_rd (d := 2) (j := 2) rfl (by omega) hk hL) ?_
  refine bnd_s h2 ?_
  exact if_pos rfl
theorem case_15 (hL : L ≤ 3072) : CaseOk (Inv x) L (fun t u i z J I => f_Lc_15 x t u (x + 46) L xs i z J I) := by
  rintro t u z J I k ⟨D, hg, hz, hc, hm⟩ hk
  obtain ⟨v, h1, h2⟩ := q_aside (u := u) (J := J) hg hc hm (xs (6 * k + 1)) (xs (6 * k + 2))
  refine ⟨z, J, mst I (x + 46) 0 0, t, u, ?_, Inv.ask hg hz hc hm⟩
  show f_Lc_15 x t u (x + 46) L xs (nI (6 * k)) z J I = _
  unfold f_Lc_15
  refine bnd_s (sc_rd (d := 1) (j := 1) rfl (by omega) hk hL) ?_
  refine bnd_s (sc_rd (d := 2) (j := 2) rfl (by omega) hk hL) ?_
  refine bnd_s h1 ?_
  refine bnd_s (sc_rd (d := 1) (j := 1) rfl (by omega) hk hL) ?_
  refine bnd_s (sc_rd (d := 2) (j := 2) rfl (by omega) hk hL) ?_
  refine bnd_s h2 ?_
  exact if_pos rfl
theorem case_16 (hL : L ≤ 3072) : CaseOk (Inv x) L (fun t u i z J I => f_Lc_16 x t u (x + 46) L xs i z J I) := by
  rintro t u z J I k ⟨D, hg, hz, hc, hm⟩ hk
  obtain ⟨v, h1, h2⟩ := q_hole (u := u) (J := J) hg hc hm (xs (6 * k + 1))
  refine ⟨z, J, mst I (x + 46) 0 0, t, u, ?_, Inv.ask hg hz hc hm⟩
  show f_Lc_16 x t u (x + 46) L xs (nI (6 * k)) z J I = _
  unfold f_Lc_16
  refine bnd_s (sc_rd (d := 1) (j := 1) rfl (by omega) hk hL) ?_
  refine bnd_s h1 ?_
  refine bnd_s (sc_rd (d := 1) (j := 1) rfl (by omega) hk hL) ?_
  refine bnd_s h2 ?_
  exact if_pos rfl
theorem case_17 (hL : L ≤ 3072) : CaseOk (Inv x) L (fun t u i z J I => f_Lc_17 x t u (x + 46) L xs i z J I) := by
  rintro t u z J I k ⟨D, hg, hz, hc, hm⟩ hk
  obtain ⟨v, h1, h2⟩ := q_whole (u := u) (J := J) hg hc hm (xs (6 * k + 1))
  refine ⟨z, J, mst I (x + 46) 0 0, t, u, ?_, Inv.ask hg hz hc hm⟩
  show f_Lc_17 x t u (x + 46) L xs (nI (6 * k)) z J I = _
  unfold f_Lc_17
  refine bnd_s (sc_rd (d := 1) (j := 1) rfl (by omega) hk hL) ?_
  refine bnd_s h1 ?_
  refine bnd_s (sc_rd (d := 1) (j := 1) rfl (by omega) hk hL) ?_
  refine bnd_s h2 ?_
  exact if_pos rfl
theorem case_18 (hL : L ≤ 3072) : CaseOk (Inv x) L (fun t u i z J I => f_Lc_18 x t u (x + 46) L xs i z J I) := by
  rintro t u z J I k ⟨D, hg, hz, hc, hm⟩ hk
  obtain ⟨v, h1, h2⟩ := q_stuck (u := u) (J := J) hg hc hm 
  refine ⟨z, J, mst I (x + 46) 0 0, t, u, ?_, Inv.ask hg hz hc hm⟩
  show f_Lc_18 x t u (x + 46) L xs (nI (6 * k)) z J I = _
  unfold f_Lc_18
  refine bnd_s h1 ?_
  refine bnd_s h2 ?_
  exact if_pos rfl
theorem case_26 (hL : L ≤ 3072) : CaseOk (Inv x) L (fun t u i z J I => f_Lc_26 x t u (x + 46) L xs i z J I) := by
  rintro t u z J I k ⟨D, hg, hz, hc, hm⟩ hk
  obtain ⟨v, h1, h2⟩ := q_count (u := u) (J := J) hg hc hm (xs (6 * k + 1))
  refine ⟨z, J, mst I (x + 46) 0 0, t, u, ?_, Inv.ask hg hz hc hm⟩
  show f_Lc_26 x t u (x + 46) L xs (nI (6 * k)) z J I = _
  unfold f_Lc_26
  refine bnd_s (sc_rd (d := 1) (j := 1) rfl (by omega) hk hL) ?_
  refine bnd_s h1 ?_
  refine bnd_s (sc_rd (d := 1) (j := 1) rfl (by omega) hk hL) ?_
  refine bnd_s h2 ?_
  exact if_pos rfl
end Cases
