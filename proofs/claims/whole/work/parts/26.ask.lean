/-! the calls that only ask -/
theorem rd_v {α : Type} {n : Nat} {f : Nat → α} {i : Int32} {v : α} (k : Nat) (e : i = nI k) (hk : k < n) (hn : n < 2 ^ 31) (hv : f k = v) : rd n f i = some v := by rw [← hv]; exact rd_k k e hk hn
theorem sm_app (g : Nat → Nat) (a n : Nat) : ∀ k, sm g a (n + k) = sm g a n + sm g (a + n) k := by
  intro k
  induction k with
  | zero => simp [sm]
  | succ k ih => rw [← Nat.add_assoc, sm, ih, sm, Nat.add_assoc a n k]; omega
theorem sm_sa (g : Nat → Nat) : ∀ n, sm g 0 (10 * n) = sa g n := by
  intro n
  induction n with
  | zero => rfl
  | succ n ih => rw [Nat.mul_succ, sm_app, ih, sa, Nat.zero_add]
theorem sa_le {g : Nat → Nat} {b : Nat} : ∀ n, (∀ o, o < n → sm g (10 * o) 10 ≤ b) → sa g n ≤ n * b := by
  intro n
  induction n with
  | zero => intro _; simp [sa]
  | succ n ih =>
    intro h
    have h1 := ih (fun o ho => h o (by omega))
    have h2 := h n (by omega)
    rw [sa, Nat.succ_mul n b]
    omega
theorem gh_len {T : Tx} {A : Fl} (hT : GT T) (h : GH T A) : flT A + (flB A).length ≤ 864 ∧ (flD A).length ≤ 864 ∧ (flC A).length ≤ 16 := by
  obtain ⟨_, _, _, _, _, _, _, hc, ht, _⟩ := hT
  obtain ⟨_, _, _, _, _, _, g1, g2, g3, _⟩ := h
  have h1 : sm (rel T A) 0 160 ≤ sm (tiN T) 0 160 := sm_mono (fun i _ => by unfold rel; split <;> omega)
  have h2 : sm (tiN T) 0 160 ≤ 16 * 54 := by
    rw [show 160 = 10 * 16 by rfl, sm_sa]
    exact sa_le 16 (fun o ho => (ht o ho).1)
  have h3 : sm (dn A) 0 16 ≤ 16 * 1 := sm_le (fun i _ => by unfold dn; split <;> omega)
  omega
theorem ls_get {l : List Nat} {j : Nat} (h : j < l.length) : ∃ c, l[j]? = some c := ⟨l[j], List.getElem?_eq_getElem h⟩
section Ask
variable {x t u : Nat} {z : Sh} {I : MI} {J : MJ} {D : Dt}
theorem q_hole (hg : GD D) (hc : CW x t z I D) (hm : MW (x + 46) I D) (p : Int32) : ∃ v, f_X4_hole x t u p I = some v ∧ f_X5_hole (x + 46) p J I = some (v, mst I (x + 46) 0 0) := by
  have hK := hm.thr (v := 0)
  have hh := hg.1.2.2.1.2
  have e1 := hc.1.1.2.2.1
  have e2 := hK.1.1.2.2.1
  rcases pk_ix p (n := tiH D.1) (by omega) with h | h | ⟨j, hj, rfl⟩
  · refine ⟨-2, it_p h rfl, ?_⟩
    unfold f_X5_hole
    refine bnd_s rfl (bnd_s (rd_v 0 rfl (by omega) (by omega) e2) (bnd_s (wi_no (by omega) (Or.inl h)) ?_))
    exact bnd_s (it_p rfl rfl) rfl
  · have h0 : ¬ p < 0 := by have := nI_pos (n := tiH D.1) (by omega); grind
    refine ⟨-2, it_n h0 (it_n (by rw [e1]; grind) rfl), ?_⟩
    unfold f_X5_hole
    refine bnd_s rfl (bnd_s (rd_v 0 rfl (by omega) (by omega) e2) (bnd_s (wi_no (by omega) (Or.inr h)) ?_))
    exact bnd_s (it_p rfl rfl) rfl
  · refine ⟨nI (flO D.2.1 j) - 1, ?_, ?_⟩
    · refine it_n (nI_pos (by omega)) (it_p (by rw [e1]; exact nI_lt hj (by omega)) ?_)
      exact bnd_s (rd_v j rfl (by omega) (by omega) (hc.2.1.2.2.2.1 j (by omega))) rfl
    · unfold f_X5_hole
      refine bnd_s rfl (bnd_s (rd_v 0 rfl (by omega) (by omega) e2) (bnd_s (wi_yes (by omega) hj) ?_))
      exact bnd_s (it_n (by decide) (bnd_s (rd_v (362 + j) (ci_a rfl j) (by omega) (by omega) (hK.2.1.2.2.2.1 j (by omega))) rfl)) rfl
theorem ne_m1 {p : Int32} {j : Nat} (hj : j < 2 ^ 31) (e : p = nI j) : ¬ p = -1 := by
  intro q
  rw [e] at q
  have := nI_pos hj
  rw [q] at this
  exact this (by decide)
theorem q_whole (hg : GD D) (hc : CW x t z I D) (hm : MW (x + 46) I D) (p : Int32) : ∃ v, f_X4_whole x t u p I = some v ∧ f_X5_whole (x + 46) p J I = some (v, mst I (x + 46) 0 0) := by
  have hK := hm.thr (v := 0)
  obtain ⟨_, _, hl⟩ := gh_len hg.1 hg.2.1.1
  obtain ⟨e1, e2⟩ := hc.2.1.2.2.2.2.2.2.2.2
  obtain ⟨e3, e4⟩ := hK.2.1.2.2.2.2.2.2.2.2
  unfold f_X4_whole f_X5_whole
  by_cases h1 : p = -1
  · refine ⟨nI (flC D.2.1).length, it_p h1 (congrArg some e1), ?_⟩
    exact bnd_s rfl (bnd_s (it_p h1 (bnd_s (rd_v 2100 rfl (by omega) (by omega) e3) rfl)) rfl)
  rcases pk_ix p (n := (flC D.2.1).length) (by omega) with h | h | ⟨j, hj, rfl⟩
  · refine ⟨-2, it_n h1 (it_p h rfl), ?_⟩
    exact bnd_s rfl (bnd_s (it_n h1 (bnd_s (rd_v 2100 rfl (by omega) (by omega) e3) (bnd_s (wi_no (by omega) (Or.inl h)) (it_p rfl rfl)))) rfl)
  · have h0 : ¬ p < 0 := by have := nI_pos (n := (flC D.2.1).length) (by omega); grind
    refine ⟨-2, it_n h1 (it_n h0 (it_n (by rw [e1]; grind) rfl)), ?_⟩
    exact bnd_s rfl (bnd_s (it_n h1 (bnd_s (rd_v 2100 rfl (by omega) (by omega) e3) (bnd_s (wi_no (by omega) (Or.inr h)) (it_p rfl rfl)))) rfl)
  · obtain ⟨c, hcc⟩ := ls_get hj
    have f1 := e2 j c hcc
    rw [Nat.zero_add] at f1
    refine ⟨nI c, it_n h1 (it_n (nI_pos (by omega)) (it_p (by rw [e1]; exact nI_lt hj (by omega)) (bnd_s (rd_v j rfl (by omega) (by omega) f1) rfl))), ?_⟩
    exact bnd_s rfl (bnd_s (it_n h1 (bnd_s (rd_v 2100 rfl (by omega) (by omega) e3) (bnd_s (wi_yes (by omega) hj) (it_n (by decide) (bnd_s (rd_v (2101 + j) (ci_a rfl j) (by omega) (by omega) (e4 j c hcc)) rfl))))) rfl)
theorem pu_s2 (v q : Int32) : f_X4_partOfUnit v q = some (if q = 0 then v / 10 else if q = 1 then v - v / 10 * 10 else -2) := by
  unfold f_X4_partOfUnit
  by_cases h0 : q = 0
  · rw [if_pos h0, if_pos h0]; rfl
  · rw [if_neg h0, if_neg h0]
    by_cases h1 : q = 1
    · rw [if_pos h1, if_pos h1]; rfl
    · rw [if_neg h1, if_neg h1]
theorem w_01 (q : Int32) : f_X5_within q.toInt64 0 1 = some (if q = 0 ∨ q = 1 then 1 else 0) := by
  rw [z_64, show (1 : Int64) = (1 : Int32).toInt64 by decide, wi_32]
  by_cases h : q = 0 ∨ q = 1
  · rw [if_pos h, if_neg (by grind), if_neg (by grind)]
  · rw [if_neg h]
    by_cases h1 : q < 0
    · rw [if_pos h1]
    · rw [if_neg h1, if_pos (by grind)]
theorem ua_s {K : MI} {m n a b : Nat} {c d : Int32} {l : List Nat} (hc : c = nI a) (hd : d = nI b) (hb : b < 2117) (ha : a + l.length ≤ 2117) (e : K (m + 13) b = nI l.length) (hl : lsr (K (m + 13)) a l) (p q : Int32) : f_X5_unitAt m c d p q J K = some (if p = -1 then nI l.length else if p < 0 then -2 else if nI l.length ≤ p then -2 else (if q = 0 then nI (l.getD p.toNatClampNeg 0) / 10 else if q = 1 then nI (l.getD p.toNatClampNeg 0) - nI (l.getD p.toNatClampNeg 0) / 10 * 10 else -2)) := by
  unfold f_X5_unitAt
  by_cases h1 : p = -1
  · rw [if_pos h1, if_pos h1]
    exact bnd_s (rd_v b hd hb (by omega) e) rfl
  rw [if_neg h1, if_neg h1]
  refine bnd_s (rd_v b hd hb (by omega) e) ?_
  rcases pk_ix p (n := l.length) (by omega) with h | h | ⟨j, hj, rfl⟩
  · rw [if_pos h]
    exact bnd_s (wi_no (by omega) (Or.inl h)) (it_p rfl rfl)
  · have h0 : ¬ p < 0 := by have := nI_pos (n := l.length) (by omega); grind
    rw [if_neg h0, if_pos h]
    exact bnd_s (wi_no (by omega) (Or.inr h)) (it_p rfl rfl)
  · rw [if_neg (nI_pos (by omega)), if_neg (nI_ge hj (by omega)), nI_clamp (by omega)]
    refine bnd_s (wi_yes (by omega) hj) (it_n (by decide) ?_)
    obtain ⟨w, hw⟩ := ls_get hj
    have hr := hl j w hw
    have hgd : l.getD j 0 = w := by rw [List.getD_eq_getElem?_getD, hw]; rfl
    rw [hgd]
    refine bnd_s (w_01 q) ?_
    by_cases q0 : q = 0
    · subst q0
      exact it_n (by decide) (bnd_s (it_p rfl (bnd_s (rd_v (a + j) (by rw [hc, nI_add]) (by omega) (by omega) hr) rfl)) (congrArg some (if_pos rfl).symm))
    · by_cases q1 : q = 1
      · subst q1
        exact it_n (by decide) (bnd_s (it_n q0 (bnd_s (rd_v (a + j) (by rw [hc, nI_add]) (by omega) (by omega) hr) rfl)) (by rw [if_neg q0, if_pos rfl]))
      · exact it_p (if_neg (fun w => w.elim q0 q1)) (by rw [if_neg q0, if_neg q1])
theorem q_belt (hg : GD D) (hc : CW x t z I D) (hm : MW (x + 46) I D) (p q : Int32) : ∃ v, f_X4_belt x t u p q I = some v ∧ f_X5_belt (x + 46) p q J I = some (v, mst I (x + 46) 0 0) := by
  have hK := hm.thr (v := 0)
  obtain ⟨hl, _, _⟩ := gh_len hg.1 hg.2.1.1
  obtain ⟨e1, e2, e3⟩ := hc.2.1.2.2.2.2.2.2.1
  obtain ⟨e5, e6⟩ := hK.2.1.2.2.2.2.2.2.1
  refine ⟨_, ?_, bnd_s rfl (bnd_s (ua_s (J := J) (n := 0) (a := 371) (b := 370) rfl rfl (by omega) (by omega) e5 e6 p q) rfl)⟩
  have ob : f_X0_onBelt (x + 24) I = some (nI (flB D.2.1).length) := by
    unfold f_X0_onBelt
    rw [e1, e2, nI_sub (by omega)]
    congr 2
    omega
  unfold f_X4_belt
  by_cases h1 : p = -1
  · rw [if_pos h1, if_pos h1]
    exact bnd_s ob rfl
  rw [if_neg h1, if_neg h1]
  rcases pk_ix p (n := (flB D.2.1).length) (by omega) with h | h | ⟨j, hj, rfl⟩
  · rw [if_pos h, if_pos h]
  · have h0 : ¬ p < 0 := by have := nI_pos (n := (flB D.2.1).length) (by omega); grind
    rw [if_neg h0, if_neg h0, if_pos h]
    exact bnd_s ob (it_n (by grind) rfl)
  · rw [if_neg (nI_pos (by omega)), if_neg (nI_pos (by omega)), if_neg (nI_ge hj (by omega)), nI_clamp (by omega)]
    refine bnd_s ob (it_p (nI_lt hj (by omega)) ?_)
    obtain ⟨w, hw⟩ := ls_get hj
    have hgd : (flB D.2.1).getD j 0 = w := by rw [List.getD_eq_getElem?_getD, hw]; rfl
    rw [hgd]
    exact bnd_s (rd_v (flT D.2.1 + j) (by rw [e1, nI_add]) (by omega) (by omega) (e3 j w hw)) (bnd_s (pu_s2 _ _) rfl)
theorem q_aside (hg : GD D) (hc : CW x t z I D) (hm : MW (x + 46) I D) (p q : Int32) : ∃ v, f_X4_aside x t u p q I = some v ∧ f_X5_aside (x + 46) p q J I = some (v, mst I (x + 46) 0 0) := by
  have hK := hm.thr (v := 0)
  obtain ⟨_, hl, _⟩ := gh_len hg.1 hg.2.1.1
  obtain ⟨e1, e3⟩ := hc.2.1.2.2.2.2.2.2.2.1
  obtain ⟨e5, e6⟩ := hK.2.1.2.2.2.2.2.2.2.1
  refine ⟨_, ?_, bnd_s rfl (bnd_s (ua_s (J := J) (n := 0) (a := 1236) (b := 1235) rfl rfl (by omega) (by omega) e5 e6 p q) rfl)⟩
  unfold f_X4_aside
  by_cases h1 : p = -1
  · rw [if_pos h1, if_pos h1, e1]
  rw [if_neg h1, if_neg h1]
  rcases pk_ix p (n := (flD D.2.1).length) (by omega) with h | h | ⟨j, hj, rfl⟩
  · rw [if_pos h, if_pos h]
  · have h0 : ¬ p < 0 := by have := nI_pos (n := (flD D.2.1).length) (by omega); grind
    rw [if_neg h0, if_neg h0, if_pos h]
    exact it_n (by rw [e1]; grind) rfl
  · rw [if_neg (nI_pos (by omega)), if_neg (nI_pos (by omega)), if_neg (nI_ge hj (by omega)), nI_clamp (by omega)]
    refine it_p (by rw [e1]; exact nI_lt hj (by omega)) ?_
    obtain ⟨w, hw⟩ := ls_get hj
    have hgd : (flD D.2.1).getD j 0 = w := by rw [List.getD_eq_getElem?_getD, hw]; rfl
    rw [hgd]
    have hr := e3 j w hw
    rw [Nat.zero_add] at hr
    exact bnd_s (rd_v j rfl (by omega) (by omega) hr) (bnd_s (pu_s2 _ _) rfl)
theorem q_units (hg : GD D) (hc : CW x t z I D) (hm : MW (x + 46) I D) (p q r : Int32) : ∃ v, f_X4_units x t u p q r I = some v ∧ f_X5_units (x + 46) p q r J I = some (v, mst I (x + 46) 0 0) := by
  have hK := hm.thr (v := 0)
  have hI := hg.1.1
  have hO := hg.1.2.1
  have e1 := hc.1.1.1
  have e2 := hc.1.1.2.1
  have e3 := hK.1.1.1
  have e4 := hK.1.1.2.1
  have no : ∀ (v : Int32) (K : MI), f_X5_isOrder (x + 46) p J K = some v → True := fun _ _ _ => trivial
  unfold f_X4_units f_X5_units
  have hp := pk_ix p (n := tiO D.1) (by omega)
  rw [← or_assoc] at hp
  rcases hp with h | ⟨o, ho, rfl⟩
  · exact ⟨-1, bnd_s (co_no e2 h) (it_p rfl rfl), bnd_s rfl (bnd_s (mo_no e4 (by omega) h) (it_p rfl rfl))⟩
  have hq := pk_ix q (n := tiI D.1) (by omega)
  rw [← or_assoc] at hq
  rcases hq with h | ⟨i, hi, rfl⟩
  · exact ⟨-1, bnd_s (co_yes e2 (by omega) ho) (it_n (by decide) (bnd_s (ci_no e1 h) (it_p rfl rfl))), bnd_s rfl (bnd_s (mo_yes e4 (by omega) ho) (it_n (by decide) (bnd_s (mi_no e3 (by omega) h) (it_p rfl rfl))))⟩
  have hcc : 10 * o + i < 160 := by omega
  have A : ∀ {v : Int32} {g : Int32 → Option Int32} {w : Int32}, g v = w → True := fun _ => trivial
  by_cases r0 : r = 0
  · refine ⟨nI (tiN D.1 (10 * o + i)), bnd_s (co_yes e2 (by omega) ho) (it_n (by decide) (bnd_s (ci_yes e1 (by omega) hi) (it_n (by decide) (it_p r0 ?_)))), bnd_s rfl (bnd_s (mo_yes e4 (by omega) ho) (it_n (by decide) (bnd_s (mi_yes e3 (by omega) hi) (it_n (by decide) (bnd_s (it_p r0 ?_) rfl)))))⟩
    · exact bnd_s rfl (bnd_s (rd_v (10 * o + i) (ci_c o i) (by omega) (by omega) (hc.1.2.2.2.1 _ hcc)) rfl)
    · exact bnd_s (rd_v (10 * o + i) (ci_m o i) (by omega) (by omega) (hK.1.2.2.2 _ hcc)) rfl
  by_cases r1 : r = 1
  · refine ⟨nI (flA D.2.1 (10 * o + i)), bnd_s (co_yes e2 (by omega) ho) (it_n (by decide) (bnd_s (ci_yes e1 (by omega) hi) (it_n (by decide) (it_n r0 (it_p r1 ?_))))), bnd_s rfl (bnd_s (mo_yes e4 (by omega) ho) (it_n (by decide) (bnd_s (mi_yes e3 (by omega) hi) (it_n (by decide) (bnd_s (it_n r0 (it_p r1 ?_)) rfl)))))⟩
    · exact bnd_s rfl (bnd_s (rd_v (10 * o + i) (ci_c o i) (by omega) (by omega) (hc.2.1.2.2.2.2.1 _ hcc)) rfl)
    · exact bnd_s (rd_v (10 + 10 * o + i) (ci_k rfl o i) (by omega) (by omega) (by rw [Nat.add_assoc 10]; exact hK.2.1.2.2.2.2.1 _ hcc)) rfl
  by_cases r2 : r = 2
  · refine ⟨nI (flL D.2.1 (10 * o + i)), bnd_s (co_yes e2 (by omega) ho) (it_n (by decide) (bnd_s (ci_yes e1 (by omega) hi) (it_n (by decide) (it_n r0 (it_n r1 (it_p r2 ?_)))))), bnd_s rfl (bnd_s (mo_yes e4 (by omega) ho) (it_n (by decide) (bnd_s (mi_yes e3 (by omega) hi) (it_n (by decide) (bnd_s (it_n r0 (it_n r1 (it_p r2 ?_))) rfl)))))⟩
    · exact bnd_s rfl (bnd_s (rd_v (10 * o + i) (ci_c o i) (by omega) (by omega) (hc.2.1.2.2.2.2.2.1 _ hcc)) rfl)
    · exact bnd_s (rd_v (170 + 10 * o + i) (ci_k rfl o i) (by omega) (by omega) (by rw [Nat.add_assoc 170]; exact hK.2.1.2.2.2.2.2.1 _ hcc)) rfl
  · exact ⟨-1, bnd_s (co_yes e2 (by omega) ho) (it_n (by decide) (bnd_s (ci_yes e1 (by omega) hi) (it_n (by decide) (it_n r0 (it_n r1 (it_n r2 rfl)))))), bnd_s rfl (bnd_s (mo_yes e4 (by omega) ho) (it_n (by decide) (bnd_s (mi_yes e3 (by omega) hi) (it_n (by decide) (bnd_s (it_n r0 (it_n r1 (it_n r2 rfl))) rfl)))))⟩
/-- late is nothing beyond the orders -/
theorem late_z {T : Tx} {A : Fl} (h : GH T A) {o i : Nat} (ho : tiO T ≤ o) (h16 : o < 16) (hi : i < 10) : flL A (10 * o + i) = 0 ∧ flA A (10 * o + i) = 0 := by
  have h1 := h.2.2.2.1 (10 * o + i) (by omega)
  have h2 := (h.2.1 o h16).2.2.2.1 ho
  unfold rel at h1
  rw [show (10 * o + i) / 10 = o by omega, if_pos h2] at h1
  omega
theorem q_item (hg : GD D) (hc : CW x t z I D) (hm : MW (x + 46) I D) (p q : Int32) : ∃ v, f_X4_item x t u p q I = some v ∧ f_X5_item (x + 46) p q J I = some (v, mst I (x + 46) 0 0) := by
  have hK := hm.thr (v := 0)
  have hI := hg.1.1
  have hO := hg.1.2.1
  have e1 := hc.1.1.1
  have e3 := hK.1.1.1
  unfold f_X4_item f_X5_item
  have hp := pk_ix p (n := tiI D.1) (by omega)
  rw [← or_assoc] at hp
  rcases hp with h | ⟨i, hi, rfl⟩
  · exact ⟨-1, bnd_s (ci_no e1 h) (it_p rfl rfl), bnd_s rfl (bnd_s (mi_no e3 (by omega) h) (it_p rfl rfl))⟩
  by_cases r0 : q = 0
  · refine ⟨nI (tiP D.1 i), bnd_s (ci_yes e1 (by omega) hi) (it_n (by decide) (it_p r0 ?_)), bnd_s rfl (bnd_s (mi_yes e3 (by omega) hi) (it_n (by decide) (bnd_s (it_p r0 ?_) rfl)))⟩
    · exact bnd_s (rd_v i rfl (by omega) (by omega) (hc.1.2.1 i hi)) rfl
    · exact bnd_s (rd_v i rfl (by omega) (by omega) (hK.1.2.1 i hi)) rfl
  by_cases r1 : q = 1
  · refine ⟨nI (flS D.2.1 i), bnd_s (ci_yes e1 (by omega) hi) (it_n (by decide) (it_n r0 (it_p r1 ?_))), bnd_s rfl (bnd_s (mi_yes e3 (by omega) hi) (it_n (by decide) (bnd_s (it_n r0 (it_p r1 ?_)) rfl)))⟩
    · exact bnd_s (rd_v i rfl (by omega) (by omega) (hc.2.1.1 i hi)) rfl
    · exact bnd_s (rd_v i rfl (by omega) (by omega) (hK.2.1.1 i hi)) rfl
  by_cases r2 : q = 2
  · refine ⟨nI (si (flL D.2.1) i 16), bnd_s (ci_yes e1 (by omega) hi) (it_n (by decide) (it_n r0 (it_n r1 (it_p r2 ?_)))), bnd_s rfl (bnd_s (mi_yes e3 (by omega) hi) (it_n (by decide) (bnd_s (it_n r0 (it_n r1 (it_p r2 ?_))) rfl)))⟩
    · exact bnd_s (li_s hc.2.1.2.2.2.2.2.1 (by omega)) rfl
    · have e := si_z (g := flL D.2.1) (i := i) (n := tiO D.1) (fun o h1 h2 => (late_z hg.2.1.1 h1 h2 (by omega)).1) (16 - tiO D.1) (by omega)
      rw [show tiO D.1 + (16 - tiO D.1) = 16 by omega] at e
      rw [e]
      exact bnd_s (ml_s hK.1.1.2.1 hO hK.2.1.2.2.2.2.2.1 (by omega)) rfl
  · exact ⟨-1, bnd_s (ci_yes e1 (by omega) hi) (it_n (by decide) (it_n r0 (it_n r1 (it_n r2 rfl)))), bnd_s rfl (bnd_s (mi_yes e3 (by omega) hi) (it_n (by decide) (bnd_s (it_n r0 (it_n r1 (it_n r2 rfl))) rfl)))⟩
end Ask
