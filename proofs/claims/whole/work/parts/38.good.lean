/-! a unit in hand: what holds of the floor, and behind its coming -/
def GHh (T : Tx) (A : Fl) (h : List Nat) : Prop :=
  (∀ i, i < tiI T → flS A i ≤ 99) ∧ (∀ o, o < 16 → flW A o ≤ 4 ∧ flH A o ≤ 8 ∧ (flW A o = 2 ↔ flH A o ≠ 0) ∧ (tiO T ≤ o → flW A o = 0) ∧ (flW A o = 4 → sm (flA A) (10 * o) 10 = tot T o)) ∧ (∀ h, h < 8 → flO A h ≤ 16) ∧ (∀ c, c < 160 → flA A c + flL A c + (flB A).count c + (flD A).count c + h.count c = rel T A c) ∧ (∀ c, c ∈ flB A → c < 160) ∧ (∀ c, c ∈ flD A → c < 160) ∧ (flC A).length = sm (dn A) 0 16 ∧ flT A + (flB A).length + sm (flL A) 0 160 = sm (rel T A) 0 160 ∧ (flD A).length + h.length ≤ flT A ∧ (∀ o, o ∈ flC A → o < 16)
theorem GH.hh {T : Tx} {A : Fl} : GH T A ↔ GHh T A [] := by
  unfold GH GHh
  simp only [List.count_nil, Nat.add_zero, List.length_nil]
theorem gh_rel {T : Tx} {A : Fl} {h : List Nat} (g : GHh T A h) {c : Nat} (hc : c ∈ h) (h1 : c < 160) : flW A (c / 10) ≠ 0 ∧ flA A c + 1 ≤ tiN T c := by
  have e := g.2.2.2.1 c h1
  have e1 : 0 < h.count c := List.count_pos_iff.mpr hc
  unfold rel at e
  by_cases q : flW A (c / 10) = 0
  · rw [if_pos q] at e
    omega
  · rw [if_neg q] at e
    exact ⟨q, by omega⟩
theorem gh_le {T : Tx} {A : Fl} {h : List Nat} (g : GHh T A h) {c : Nat} (h1 : c < 160) : flA A c ≤ tiN T c := by
  have e := g.2.2.2.1 c h1
  unfold rel at e
  split at e <;> omega
theorem gh_n4 {T : Tx} {A : Fl} {h : List Nat} (g : GHh T A h) {c : Nat} (hc : c ∈ h) (h1 : c < 160) : flW A (c / 10) ≠ 4 := by
  intro q
  have e := (g.2.1 (c / 10) (by omega)).2.2.2.2 q
  have hl := sm_lt (g := flA A) (g' := tiN T) (a := 10 * (c / 10)) (a' := 10 * (c / 10)) (n := 10) (k := c % 10) (fun i hi => gh_le g (by omega)) (by omega) (by
    rw [show 10 * (c / 10) + c % 10 = c by omega]
    have := (gh_rel g hc h1).2
    omega)
  unfold tot at e
  omega
theorem sm_dn {A : Fl} {o : Nat} (ho : o < 16) (h : flW A o ≠ 4) : sm (dn A) 0 16 < 16 := by
  have := sm_lt (g := dn A) (g' := fun _ => 1) (a := 0) (a' := 0) (n := 16) (k := o) (fun i _ => by unfold dn; split <;> omega) ho (by
    show dn A (0 + o) < 1
    unfold dn
    rw [Nat.zero_add, if_neg h]
    omega)
  exact Nat.lt_of_lt_of_le this (by decide)
theorem gh_B {T : Tx} {A : Fl} {h : List Nat} (hT : GT T) (g : GHh T A h) : flT A + (flB A).length ≤ 864 := by
  obtain ⟨_, _, _, _, _, _, _, hc, ht, _⟩ := hT
  obtain ⟨_, _, _, _, _, _, g1, g2, g3, _⟩ := g
  have h1 : sm (rel T A) 0 160 ≤ sm (tiN T) 0 160 := sm_mono (fun i _ => by unfold rel; split <;> omega)
  have h2 : sm (tiN T) 0 160 ≤ 16 * 54 := by
    rw [show 160 = 10 * 16 by rfl, sm_sa]
    exact sa_le 16 (fun o ho => (ht o ho).1)
  omega
/-- a unit in hand that can come: come's needs are met -/
theorem gh_cm {T : Tx} {A : Fl} {c : Nat} (hT : GT T) (g : GHh T A [c]) (h1 : c < 160) (hn : cn T A (c / 10)) : Cm T A c := by
  have hm : c ∈ [c] := List.mem_singleton.mpr rfl
  refine ⟨h1, hn, fun o ho => ⟨(g.2.1 o ho).1, (g.2.1 o ho).2.1⟩, g.2.2.1, fun d hd => ?_, ?_, hT.2.2.1.2, fun o ho => (hT.2.2.2.2.2.2.2.2.1 o ho).1, ?_⟩
  · have := gh_le g hd
    have := (hT.2.2.2.2.2.2.2.1 d hd).1
    omega
  · rw [g.2.2.2.2.2.2.1]
    exact sm_dn (o := c / 10) (by omega) (gh_n4 g hm h1)
  · have := gh_B hT g
    omega
/-- what com makes of the parts -/
theorem com_p {T : Tx} {A : Fl} {c : Nat} : flA (com T A c) = pu (flA A) c (flA A c + 1) ∧ flL (com T A c) = flL A ∧ flS (com T A c) = flS A ∧ flB (com T A c) = flB A ∧ flT (com T A c) = flT A ∧ flD (com T A c) = flD A := by
  have e := com1_A (T := T) (A := A) (o := c / 10)
  have e2 : flA (com2 T A c) = pu (flA A) c (flA A c + 1) ∧ flL (com2 T A c) = flL A ∧ flS (com2 T A c) = flS A ∧ flB (com2 T A c) = flB A ∧ flT (com2 T A c) = flT A ∧ flD (com2 T A c) = flD A := by
    refine ⟨?_, e.2.1, e.2.2.1, e.2.2.2.1, e.2.2.2.2.2.1, e.2.2.2.2.2.2⟩
    show pu (flA (com1 T A (c / 10))) c (flA A c + 1) = _
    rw [e.1]
  unfold com
  split
  · unfold lev
    split
    · exact e2
    · exact e2
  · exact e2
theorem com1_W {T : Tx} {A : Fl} {o q : Nat} : (q ≠ o → flW (com1 T A o) q = flW A q ∧ flH (com1 T A o) q = flH A q) ∧ flW (com1 T A o) o = (if flW A o = 1 then 2 else flW A o) ∧ flH (com1 T A o) o = (if flW A o = 1 then ff (flO A) (tiH T) else flH A o) := by
  unfold com1
  by_cases h : flW A o = 1
  · rw [if_pos h, if_pos h, if_pos h]
    refine ⟨fun hq => ⟨pu_n hq, pu_n hq⟩, pu_s, pu_s⟩
  · rw [if_neg h, if_neg h, if_neg h]
    exact ⟨fun _ => ⟨rfl, rfl⟩, rfl, rfl⟩
theorem lev_W {A : Fl} {o q : Nat} : flW (lev A o) = flW A ∧ flA (lev A o) = flA A ∧ (q ≠ o → flH (lev A o) q = flH A q) ∧ flH (lev A o) o = 0 := by
  unfold lev
  by_cases h : flH A o = 0
  · rw [if_pos h]
    exact ⟨rfl, rfl, fun _ => rfl, h⟩
  · rw [if_neg h]
    exact ⟨rfl, rfl, fun hq => pu_n hq, pu_s⟩
theorem com_W {T : Tx} {A : Fl} {c q : Nat} : (q ≠ c / 10 → flW (com T A c) q = flW A q ∧ flH (com T A c) q = flH A q) ∧ (ful T A c = true → flW (com T A c) (c / 10) = 4 ∧ flH (com T A c) (c / 10) = 0) ∧ (ful T A c = false → flW (com T A c) (c / 10) = (if flW A (c / 10) = 1 then 2 else flW A (c / 10)) ∧ flH (com T A c) (c / 10) = (if flW A (c / 10) = 1 then ff (flO A) (tiH T) else flH A (c / 10))) := by
  have e := com1_W (T := T) (A := A) (o := c / 10) (q := q)
  refine ⟨fun hq => ?_, fun hf => ?_, fun hf => ?_⟩
  · unfold com
    split
    · have l := lev_W (A := whl (com2 T A c) (c / 10)) (o := c / 10) (q := q)
      rw [l.1, l.2.2.1 hq]
      exact ⟨(pu_n hq).trans (e.1 hq).1, (e.1 hq).2⟩
    · exact e.1 hq
  · unfold com
    rw [if_pos hf]
    have l := lev_W (A := whl (com2 T A c) (c / 10)) (o := c / 10) (q := q)
    rw [l.1, l.2.2.2]
    exact ⟨pu_s, rfl⟩
  · unfold com
    rw [hf]
    exact e.2
theorem com_C {T : Tx} {A : Fl} {c : Nat} : flC (com T A c) = if ful T A c then flC A ++ [c / 10] else flC A := by
  have e : flC (com2 T A c) = flC A := (com1_A (T := T) (A := A) (o := c / 10)).2.2.2.2.1
  unfold com
  split
  · rw [lev_C.1]
    show flC (com2 T A c) ++ [c / 10] = _
    rw [e]
  · exact e
theorem com_O {T : Tx} {A : Fl} {c h : Nat} (hA : ∀ h, h < 8 → flO A h ≤ 16) (hc : c < 160) (hh : h < 8) : flO (com T A c) h ≤ 16 := by
  have h1 : ∀ h, h < 8 → flO (com2 T A c) h ≤ 16 := by
    intro h hh
    show flO (com1 T A (c / 10)) h ≤ 16
    unfold com1
    split
    · show pu (flO A) (ff (flO A) (tiH T) - 1) (c / 10 + 1) h ≤ 16
      unfold pu
      split
      · omega
      · exact hA h hh
    · exact hA h hh
  unfold com
  split
  · unfold lev
    split
    · exact h1 h hh
    · show pu (flO (whl (com2 T A c) (c / 10))) (flH (whl (com2 T A c) (c / 10)) (c / 10) - 1) 0 h ≤ 16
      unfold pu
      split
      · omega
      · exact h1 h hh
  · exact h1 h hh
theorem gh_com {T : Tx} {A : Fl} {c : Nat} (hT : GT T) (g : GHh T A [c]) (h1 : c < 160) (hn : cn T A (c / 10)) : GH T (com T A c) := by
  have hm : c ∈ [c] := List.mem_singleton.mpr rfl
  have n0 := (gh_rel g hm h1).1
  have n4 := gh_n4 g hm h1
  obtain ⟨p1, p2, p3, p4, p5, p6⟩ := com_p (T := T) (A := A) (c := c)
  have hW := fun q => com_W (T := T) (A := A) (c := c) (q := q)
  have ho : c / 10 < 16 := by omega
  have hoT : c / 10 < tiO T := Nat.lt_of_not_le (fun q => n0 ((g.2.1 _ ho).2.2.2.1 q))
  have hfl := ff_le (g := flO A) (n := tiH T)
  have h8 := hT.2.2.1.2
  have hrel : ∀ d, rel T (com T A c) d = rel T A d := by
    intro d
    unfold rel
    by_cases e : d / 10 = c / 10
    · have : flW (com T A c) (d / 10) ≠ 0 := by
        rw [e]
        cases hf : ful T A c with
        | true => rw [((hW 0).2.1 hf).1]; omega
        | false =>
          rw [((hW 0).2.2 hf).1]
          split
          · omega
          · exact n0
      rw [if_neg this, if_neg (by rw [e]; exact n0)]
    · rw [((hW (d / 10)).1 e).1]
  have hsmA : ∀ o, o < 16 → o ≠ c / 10 → sm (flA (com T A c)) (10 * o) 10 = sm (flA A) (10 * o) 10 := fun o _ hne => by rw [p1]; exact sm_puo (by omega)
  have hle : sm (flA (com T A c)) (10 * (c / 10)) 10 ≤ tot T (c / 10) := by
    rw [p1]
    refine sm_mono (fun i hi => ?_)
    unfold pu
    split
    · rename_i e
      rw [e]
      exact (gh_rel g hm h1).2
    · exact gh_le g (by omega)
  have hcom2 : flA (com2 T A c) = flA (com T A c) := by
    rw [p1]
    show pu (flA (com1 T A (c / 10))) c (flA A c + 1) = _
    rw [com1_A.1]
  refine ⟨by rw [p3]; exact g.1, fun o h16 => ?_, fun h hh => com_O g.2.2.1 h1 hh, fun d hd => ?_, by rw [p4]; exact g.2.2.2.2.1, by rw [p6]; exact g.2.2.2.2.2.1, ?_, ?_, ?_, ?_⟩
  · obtain ⟨w1, w2, w3, w4, w5⟩ := g.2.1 o h16
    by_cases e : o = c / 10
    · subst e
      cases hf : ful T A c with
      | true =>
        obtain ⟨a1, a2⟩ := (hW 0).2.1 hf
        rw [a1, a2]
        refine ⟨by omega, by omega, by constructor <;> intro q <;> omega, fun q => by omega, fun _ => ?_⟩
        have := of_decide_eq_true hf
        rw [hcom2] at this
        omega
      | false =>
        obtain ⟨a1, a2⟩ := (hW 0).2.2 hf
        rw [a1, a2]
        by_cases q1 : flW A (c / 10) = 1
        · rw [if_pos q1, if_pos q1]
          have hff : ff (flO A) (tiH T) ≠ 0 := by
            rcases hn with e | e | e
            · omega
            · omega
            · exact e
          exact ⟨by omega, by omega, by constructor <;> intro q <;> omega, fun q => by omega, fun q => by omega⟩
        · rw [if_neg q1, if_neg q1]
          exact ⟨w1, w2, w3, w4, fun q => absurd q n4⟩
    · obtain ⟨a1, a2⟩ := (hW o).1 e
      rw [a1, a2, hsmA o h16 e]
      exact ⟨w1, w2, w3, w4, w5⟩
  · have e := g.2.2.2.1 d hd
    rw [hrel, p1, p2, p4, p6]
    by_cases q : d = c
    · subst q
      rw [List.count_singleton_self] at e
      rw [pu_s]
      omega
    · rw [List.count_singleton, if_neg (by simpa using fun w => q (Eq.symm w))] at e
      rw [pu_n q]
      exact e
  · rw [com_C]
    have hdn : ∀ o, o ≠ c / 10 → dn (com T A c) o = dn A o := fun o hne => by unfold dn; rw [((hW o).1 hne).1]
    cases hf : ful T A c with
    | true =>
      have e : sm (dn (com T A c)) 0 16 = sm (pu (dn A) (c / 10) 1) 0 16 := sm_eq (fun i _ => by
        unfold pu
        split
        · rename_i q
          rw [q]
          unfold dn
          rw [((hW 0).2.1 hf).1, if_pos rfl]
        · rename_i q
          exact hdn _ q)
      have e2 := sm_pu (g := dn A) (a := 0) (n := 16) (c := c / 10) (v := 1) (by omega) (by omega)
      have e3 : dn A (c / 10) = 0 := by unfold dn; rw [if_neg n4]
      rw [e, if_pos rfl, List.length_append, g.2.2.2.2.2.2.1]
      simp only [List.length_cons, List.length_nil]
      omega
    | false =>
      rw [if_neg (by simp), g.2.2.2.2.2.2.1]
      refine sm_eq (fun i _ => ?_)
      by_cases q : 0 + i = c / 10
      · rw [q]
        unfold dn
        rw [((hW 0).2.2 hf).1, if_neg n4, if_neg]
        split <;> omega
      · exact (hdn _ q).symm
  · rw [p5, p4, p2, g.2.2.2.2.2.2.2.1]
    exact sm_eq (fun i _ => (hrel _).symm)
  · rw [p6, p5]
    have := g.2.2.2.2.2.2.2.2.1
    simp only [List.length_cons, List.length_nil] at this
    omega
  · rw [com_C]
    split
    · intro o ho2
      rcases List.mem_append.mp ho2 with q | q
      · exact g.2.2.2.2.2.2.2.2.2 o q
      · rw [List.mem_singleton.mp q]
        exact ho
    · exact g.2.2.2.2.2.2.2.2.2
/-- those that couldn't come can't behind a coming that freed nothing -/
theorem cn_keep {T : Tx} {A : Fl} {c o : Nat} (hg : ∀ o, o < 16 → (flW A o = 2 ↔ flH A o ≠ 0)) (hc : c < 160) (hn : cn T A (c / 10)) (hf : frb T A c = false) (ho : ¬ cn T A o) : ¬ cn T (com T A c) o := by
  unfold cn at ho hn ⊢
  have o2 : flW A o ≠ 2 := fun q => ho (Or.inl q)
  have o3 : flW A o ≠ 3 := fun q => ho (Or.inr (Or.inl q))
  have o0 : ff (flO A) (tiH T) = 0 := Classical.byContradiction (fun q => ho (Or.inr (Or.inr q)))
  have hw : flW A (c / 10) = 2 ∨ flW A (c / 10) = 3 := by
    rcases hn with e | e | e
    · exact Or.inl e
    · exact Or.inr e
    · exact absurd o0 e
  have e1 : com1 T A (c / 10) = A := by unfold com1; rw [if_neg (by omega)]
  have hne : o ≠ c / 10 := fun e => by subst e; omega
  have hO : flO (com T A c) = flO A := by
    unfold com
    unfold frb at hf
    cases q : ful T A c with
    | true =>
      rw [q] at hf
      simp at hf
      have : flH (whl (com2 T A c) (c / 10)) (c / 10) = 0 := hf
      rw [if_pos rfl]
      unfold lev
      rw [if_pos this]
      show flO (com1 T A (c / 10)) = _
      rw [e1]
    | false =>
      rw [if_neg (by simp)]
      show flO (com1 T A (c / 10)) = _
      rw [e1]
  rw [hO, (com_W.1 hne).1]
  rintro (e | e | e)
  · exact o2 e
  · exact o3 e
  · exact e o0
