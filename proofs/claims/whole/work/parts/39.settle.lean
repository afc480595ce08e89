/-! units aside -/
def pas (T : Tx) : List Nat → Fl → List Nat → Bool → Bool → Fl × List Nat × Bool
  | [], A, dn, _, ca => (A, dn, ca)
  | c :: td, A, dn, fr, ca => if !fr && cnb T A (c / 10) then pas T td (com T A c) dn (frb T A c) true else pas T td A (dn ++ [c]) fr ca
def stt (T : Tx) : Nat → Fl → List Nat → Fl × List Nat
  | 0, A, l => (A, l)
  | n + 1, A, l => if (pas T l A [] false false).2.2 then stt T n (pas T l A [] false false).1 (pas T l A [] false false).2.1 else ((pas T l A [] false false).1, (pas T l A [] false false).2.1)
def cont (T : Tx) (n : Nat) (td : List Nat) (A : Fl) (dn : List Nat) (fr ca : Bool) : Fl × List Nat := if (pas T td A dn fr ca).2.2 then stt T n (pas T td A dn fr ca).1 (pas T td A dn fr ca).2.1 else ((pas T td A dn fr ca).1, (pas T td A dn fr ca).2.1)
theorem pas_fr {T : Tx} {A : Fl} {ca : Bool} : ∀ (td dn : List Nat), pas T td A dn true ca = (A, dn ++ td, ca) := by
  intro td
  induction td with
  | nil => intro dn; rw [pas, List.append_nil]
  | cons c td ih =>
    intro dn
    rw [pas]
    simp only [Bool.not_true, Bool.false_and, Bool.false_eq_true, if_false]
    rw [ih, List.append_assoc]
    rfl
theorem pas_no {T : Tx} {A : Fl} {ca : Bool} : ∀ (td dn : List Nat), (∀ c, c ∈ td → ¬ cn T A (c / 10)) → pas T td A dn false ca = (A, dn ++ td, ca) := by
  intro td
  induction td with
  | nil => intro dn _; rw [pas, List.append_nil]
  | cons c td ih =>
    intro dn h
    have h1 : cnb T A (c / 10) = false := by
      have := h c (List.mem_cons_self ..)
      rw [← cnb_i] at this
      simpa using this
    rw [pas]
    simp only [h1, Bool.and_false, Bool.false_eq_true, if_false]
    rw [ih _ (fun d hd => h d (List.mem_cons_of_mem _ hd)), List.append_assoc]
    rfl
theorem stt_no {T : Tx} {A : Fl} {n : Nat} {l : List Nat} (h : ∀ c, c ∈ l → ¬ cn T A (c / 10)) : stt T n A l = (A, l) := by
  cases n with
  | zero => rfl
  | succ n =>
    rw [stt, pas_no l [] h]
    simp
theorem pas_len {T : Tx} : ∀ (td : List Nat) (A : Fl) (dn : List Nat) (fr ca : Bool), (pas T td A dn fr ca).2.1.length ≤ dn.length + td.length ∧ ((pas T td A dn fr ca).2.2 = true ↔ ca = true ∨ (pas T td A dn fr ca).2.1.length < dn.length + td.length) := by
  intro td
  induction td with
  | nil =>
    intro A dn fr ca
    rw [pas]
    simp
  | cons c td ih =>
    intro A dn fr ca
    rw [pas]
    split
    · obtain ⟨h1, h2⟩ := ih (com T A c) dn (frb T A c) true
      refine ⟨by simp only [List.length_cons]; omega, ?_⟩
      constructor
      · intro _
        refine Or.inr ?_
        simp only [List.length_cons]
        omega
      · intro _
        exact h2.mpr (Or.inl rfl)
    · obtain ⟨h1, h2⟩ := ih A (dn ++ [c]) fr ca
      simp only [List.length_append, List.length_cons, List.length_nil] at h1 h2 ⊢
      refine ⟨by omega, ?_⟩
      rw [h2]
      constructor
      · rintro (q | q)
        · exact Or.inl q
        · exact Or.inr (by omega)
      · rintro (q | q)
        · exact Or.inl q
        · exact Or.inr (by omega)
/-- the parts aside are no part of com -/
theorem sd_com1 {T : Tx} {A : Fl} {o : Nat} {l : List Nat} : com1 T (setD A l) o = setD (com1 T A o) l := by
  have e : flW (setD A l) o = flW A o := rfl
  unfold com1
  rw [e]
  split <;> rfl
theorem sd_com2 {T : Tx} {A : Fl} {c : Nat} {l : List Nat} : com2 T (setD A l) c = setD (com2 T A c) l := by
  unfold com2
  rw [sd_com1]
  rfl
theorem sd_ful {T : Tx} {A : Fl} {c : Nat} {l : List Nat} : ful T (setD A l) c = ful T A c := by
  unfold ful
  rw [sd_com2]
  rfl
theorem sd_lev {A : Fl} {o : Nat} {l : List Nat} : lev (setD A l) o = setD (lev A o) l := by
  have e : flH (setD A l) o = flH A o := rfl
  unfold lev
  rw [e]
  split <;> rfl
theorem sd_com {T : Tx} {A : Fl} {c : Nat} {l : List Nat} : com T (setD A l) c = setD (com T A c) l := by
  unfold com
  rw [sd_ful, sd_com2]
  have e : whl (setD (com2 T A c) l) (c / 10) = setD (whl (com2 T A c) (c / 10)) l := rfl
  rw [e, sd_lev]
  split <;> rfl
/-- one of those aside in hand -/
theorem gh_hand {T : Tx} {A : Fl} {dn td : List Nat} {c : Nat} (g : GH T (setD A (dn ++ c :: td))) : GHh T (setD A (dn ++ td)) [c] ∧ c < 160 := by
  obtain ⟨g1, g2, g3, g4, g5, g6, g7, g8, g9, g10⟩ := g
  have hc : c ∈ flD (setD A (dn ++ c :: td)) := List.mem_append_right _ (List.mem_cons_self ..)
  refine ⟨⟨g1, g2, g3, fun d hd => ?_, g5, fun d hd => g6 d ?_, g7, g8, ?_, g10⟩, g6 c hc⟩
  · have e := g4 d hd
    have e1 : (dn ++ c :: td).count d = (dn ++ td).count d + [c].count d := by
      rw [List.count_append, List.count_append, List.count_cons, List.count_singleton]
      omega
    show flA A d + flL A d + (flB A).count d + (dn ++ td).count d + [c].count d = rel T A d
    have e2 : flA A d + flL A d + (flB A).count d + (dn ++ c :: td).count d = rel T A d := e
    omega
  · rcases List.mem_append.mp hd with q | q
    · exact List.mem_append_left _ q
    · exact List.mem_append_right _ (List.mem_cons_of_mem _ q)
  · have e : (dn ++ c :: td).length ≤ flT A := g9
    show (dn ++ td).length + [c].length ≤ flT A
    rw [List.length_append, List.length_cons] at e
    rw [List.length_append]
    simp only [List.length_cons, List.length_nil]
    omega
theorem gh_step {T : Tx} {A : Fl} {dn td : List Nat} {c : Nat} (hT : GT T) (g : GH T (setD A (dn ++ c :: td))) (hn : cn T A (c / 10)) : GH T (setD (com T A c) (dn ++ td)) ∧ Cm T A c := by
  obtain ⟨g1, h1⟩ := gh_hand g
  have h2 := gh_com hT g1 h1 hn
  rw [sd_com] at h2
  have h3 : Cm T (setD A (dn ++ td)) c := gh_cm hT g1 h1 hn
  exact ⟨h2, h3⟩
theorem pas_gh {T : Tx} (hT : GT T) : ∀ (td : List Nat) (A : Fl) (dn : List Nat) (fr ca : Bool), GH T (setD A (dn ++ td)) → GH T (setD (pas T td A dn fr ca).1 (pas T td A dn fr ca).2.1) := by
  intro td
  induction td with
  | nil =>
    intro A dn fr ca g
    rw [List.append_nil] at g
    exact g
  | cons c td ih =>
    intro A dn fr ca g
    rw [pas]
    split
    · rename_i h
      simp only [Bool.and_eq_true, Bool.not_eq_true'] at h
      exact ih _ _ _ _ (gh_step hT g (cnb_i.mp h.2)).1
    · exact ih _ _ _ _ (by rw [List.append_assoc]; exact g)
theorem ls_shift {R : Nat → Int32} {i c : Nat} {l : List Nat} (h : lsr R i (c :: l)) : lsr R (i + 1) l := fun k d hk => by
  have := h (k + 1) d hk
  rw [show i + 1 + k = i + (k + 1) by omega]
  exact this
theorem ls_snoc {R : Nat → Int32} {l : List Nat} {c : Nat} (h : lsr R 0 l) : lsr (pu R l.length (nI c)) 0 (l ++ [c]) := by
  intro k d hk
  rcases ls_app hk with q | ⟨q1, q2⟩
  · have := ls_lt q
    rw [pu_n (by omega)]
    exact h k d q
  · rw [q1, q2, Nat.zero_add, pu_s]
theorem ls_pu {R : Nat → Int32} {l : List Nat} {b j : Nat} {v : Int32} (h : lsr R b l) (hj : j < b ∨ b + l.length ≤ j) : lsr (pu R j v) b l := fun k d hk => by
  have := ls_lt hk
  rw [pu_n (by omega)]
  exact h k d hk
/-- the class's going through those aside -/
theorem gt_c {ni f t w : Nat} {I : MI} {T : Tx} (hT : GT T) (hd : t + 10 ≤ f ∨ f + 10 ≤ t) (hw : I f 12 = nI w) (h864 : w ≤ 864) : ∀ (td : List Nat) (A : Fl) (dn : List Nat) (fr ca : Bool) (i : Nat) (I2 : MI), CT I2 t T → CG ni I2 f A → lsr (I2 (f + 9)) 0 dn → lsr (I2 (f + 9)) i td → dn.length ≤ i → i + td.length = w → GH T (setD A (dn ++ td)) → Ok (lp (b_X0_goThroughAside_13 f t I) (nI dn.length, (if fr then 1 else 0), nI i, I2)) (fun r => r.1 = nI (pas T td A dn fr ca).2.1.length ∧ CG ni r.2.2.2 f (pas T td A dn fr ca).1 ∧ lsr (r.2.2.2 (f + 9)) 0 (pas T td A dn fr ca).2.1 ∧ Fo f I2 r.2.2.2) := by
  intro td
  induction td with
  | nil =>
    intro A dn fr ca i I2 c1 c2 c3 c4 c5 c6 g
    simp only [List.length_nil, Nat.add_zero] at c6
    subst c6
    refine ⟨_, lp_done (it_n (by rw [hw]; exact nI_nlt (Nat.le_refl _) (by omega)) rfl), rfl, c2, c3, Fo.rf⟩
  | cons c td ih =>
    intro A dn fr ca i I2 c1 c2 c3 c4 c5 c6 g
    simp only [List.length_cons] at c6
    obtain ⟨_, h160⟩ := gh_hand g
    have ho : c / 10 < 16 := by omega
    have r0 : rd 864 (I2 (f + 9)) (nI i) = some (nI c) := rd_v i rfl (by omega) (by omega) (c4 0 c rfl)
    have c0 : nI i < I f 12 := by rw [hw]; exact nI_lt (by omega) (by omega)
    -- the unit stays
    have stay : ∀ (fl : Int32), Ok (lp (b_X0_goThroughAside_13 f t I) (nI (dn ++ [c]).length, fl, nI (i + 1), mst I2 (f + 9) dn.length (nI c))) (fun r => r.1 = nI (pas T td A (dn ++ [c]) fr ca).2.1.length ∧ CG ni r.2.2.2 f (pas T td A (dn ++ [c]) fr ca).1 ∧ lsr (r.2.2.2 (f + 9)) 0 (pas T td A (dn ++ [c]) fr ca).2.1 ∧ Fo f (mst I2 (f + 9) dn.length (nI c)) r.2.2.2) → b_X0_goThroughAside_13 f t I (nI dn.length, (if fr then 1 else 0), nI i, I2) = some (.inl (nI dn.length + 1, fl, nI i + 1, mst I2 (f + 9) dn.length (nI c))) → pas T (c :: td) A dn fr ca = pas T td A (dn ++ [c]) fr ca → Ok (lp (b_X0_goThroughAside_13 f t I) (nI dn.length, (if fr then 1 else 0), nI i, I2)) (fun r => r.1 = nI (pas T (c :: td) A dn fr ca).2.1.length ∧ CG ni r.2.2.2 f (pas T (c :: td) A dn fr ca).1 ∧ lsr (r.2.2.2 (f + 9)) 0 (pas T (c :: td) A dn fr ca).2.1 ∧ Fo f I2 r.2.2.2) := by
      intro fl h1 h2 h3
      rw [h3]
      obtain ⟨r, e, p1, p2, p3, p4⟩ := h1
      rw [List.length_append] at e
      rw [nI_1, nI_1] at h2
      exact ⟨r, lp_next h2 e, p1, p2, p3, (Fo.ms (by omega)).tr p4⟩
    have next : ∀ fl : Int32, fl = (if fr then 1 else 0) → Ok (lp (b_X0_goThroughAside_13 f t I) (nI (dn ++ [c]).length, fl, nI (i + 1), mst I2 (f + 9) dn.length (nI c))) (fun r => r.1 = nI (pas T td A (dn ++ [c]) fr ca).2.1.length ∧ CG ni r.2.2.2 f (pas T td A (dn ++ [c]) fr ca).1 ∧ lsr (r.2.2.2 (f + 9)) 0 (pas T td A (dn ++ [c]) fr ca).2.1 ∧ Fo f (mst I2 (f + 9) dn.length (nI c)) r.2.2.2) := by
      rintro fl rfl
      refine ih A (dn ++ [c]) fr ca (i + 1) (mst I2 (f + 9) dn.length (nI c)) (c1.fr (fun r hr => mst_row _ _ _ (by omega))) (c2.fr (fun r h1 h2 => mst_row _ _ _ (by omega)) ⟨mst_ne _ _ (Or.inl (by omega)), mst_ne _ _ (Or.inl (by omega)), mst_ne _ _ (Or.inl (by omega))⟩) (by rw [ms_r]; exact ls_snoc c3) (by rw [ms_r]; exact ls_pu (ls_shift c4) (by omega)) (by rw [List.length_append]; simp only [List.length_cons, List.length_nil]; omega) (by omega) (by rw [List.append_assoc]; exact g)
    cases fr with
    | true =>
      refine stay 1 (next 1 rfl) ?_ (by rw [pas]; simp)
      refine it_p c0 (bnd_s r0 (bnd_s (it_n (show ¬ (1 : Int32) = 0 by decide) (bnd_s (wr_k dn.length rfl (by omega) (by omega)) rfl)) rfl))
    | false =>
      have cc := cc_c c1 c2 hT.2.2.1.2 g.2.2.1 ho (g.2.1 _ ho).1
      cases hcn : cnb T A (c / 10) with
      | false =>
        rw [hcn] at cc
        refine stay 0 (next 0 rfl) ?_ (by rw [pas]; simp [hcn])
        refine it_p c0 (bnd_s r0 (bnd_s (it_p rfl (bnd_s (congrArg some (dv10 c h160)) (bnd_s cc (it_p rfl (bnd_s (wr_k dn.length rfl (by omega) (by omega)) rfl))))) rfl))
      | true =>
        rw [hcn] at cc
        obtain ⟨g2, hcm⟩ := gh_step hT g (cnb_i.mp hcn)
        obtain ⟨⟨v, I3⟩, e, p1, p2, p3, p4, p5⟩ := co_c c1 hd c2 hcm
        dsimp only at p1 p2 p3 p4 p5
        have hp : pas T (c :: td) A dn false ca = pas T td (com T A c) dn (frb T A c) true := by rw [pas]; simp [hcn]
        rw [hp]
        obtain ⟨r, er, q1, q2, q3, q4⟩ := ih (com T A c) dn (frb T A c) true (i + 1) I3 (c1.fr (fun r hr => p5 _ (by omega))) p2 (by rw [p3]; exact c3) (by rw [p3]; exact ls_shift c4) (by omega) (by omega) g2
        refine ⟨r, lp_next ?_ er, q1, q2, q3, p5.tr q4⟩
        rw [← p1, ← nI_1]
        refine it_p c0 (bnd_s r0 (bnd_s (it_p rfl (bnd_s (congrArg some (dv10 c h160)) (bnd_s cc (it_n (by decide) (bnd_s e rfl))))) rfl))
theorem th_c {ni f t : Nat} {I : MI} {T : Tx} {A : Fl} {l : List Nat} (hT : GT T) (hd : t + 10 ≤ f ∨ f + 10 ≤ t) (c1 : CT I t T) (c2 : CG ni I f A) (c3 : CS I f l) (hl : l.length ≤ 864) (g : GH T (setD A l)) : Ok (f_X0_goThroughAside f t I) (fun r => r.1 = (if (pas T l A [] false false).2.2 then 1 else 0) ∧ CG ni r.2 f (pas T l A [] false false).1 ∧ CS r.2 f (pas T l A [] false false).2.1 ∧ Fo f I r.2) := by
  obtain ⟨r, e, p1, p2, p3, p4⟩ := gt_c (ni := ni) hT hd c3.1 hl l A [] false false 0 I c1 c2 (fun k d hk => nomatch hk) c3.2 (by simp) (by omega) (by simpa using g)
  have hlen := pas_len (T := T) l A [] false false
  simp only [List.length_nil, Nat.zero_add, Bool.false_eq_true, false_or] at hlen
  unfold f_X0_goThroughAside
  refine ok_bs e (ok_wf ?_)
  rw [p1, c3.1]
  have fin : CG ni (mst r.2.2.2 f 12 (nI (pas T l A [] false false).2.1.length)) f (pas T l A [] false false).1 ∧ CS (mst r.2.2.2 f 12 (nI (pas T l A [] false false).2.1.length)) f (pas T l A [] false false).2.1 ∧ Fo f I (mst r.2.2.2 f 12 (nI (pas T l A [] false false).2.1.length)) := by
    refine ⟨p2.fr (fun r h1 h2 => mst_row _ _ _ (by omega)) ⟨mst_ne _ _ (Or.inr (by omega)), mst_ne _ _ (Or.inr (by omega)), mst_ne _ _ (Or.inr (by omega))⟩, ⟨mst_self _ _ _ _, by rw [mst_row _ _ _ (by omega)]; exact p3⟩, p4.tr Fo.m0⟩
  by_cases h : (pas T l A [] false false).2.1.length < l.length
  · refine ok_bs (it_p (nI_lt h (by omega)) rfl) (ok_gb1 (ok_some ⟨?_, fin⟩))
    rw [if_pos (hlen.2.mpr h)]
  · refine ok_bs (it_n (nI_nlt (by omega) (by omega)) rfl) (ok_gb0 (ok_some ⟨?_, fin⟩))
    rw [if_neg (fun q => h (hlen.2.mp q))]
theorem se_c {ni f t : Nat} {T : Tx} (hT : GT T) (hd : t + 10 ≤ f ∨ f + 10 ≤ t) : ∀ (n i : Nat) (A : Fl) (l : List Nat) (I : MI), i + n = 865 → CT I t T → CG ni I f A → CS I f l → l.length ≤ 864 → GH T (setD A l) → Ok (lp (b_X0_settleAside_2 f t) (nI i, I)) (fun r => ∃ I', Sum.elim (fun rr => some rr) (fun q8 : Int32 × MI => some q8.2) r = some I' ∧ CG ni I' f (stt T n A l).1 ∧ CS I' f (stt T n A l).2 ∧ Fo f I I') := by
  intro n
  induction n with
  | zero =>
    intro i A l I hi c1 c2 c3 hl g
    exact ⟨_, lp_done (it_p (nI_lt (a := 864) (by omega) (by omega)) rfl), I, rfl, c2, c3, Fo.rf⟩
  | succ n ih =>
    intro i A l I hi c1 c2 c3 hl g
    obtain ⟨⟨v, I1⟩, e, p1, p2, p3, p4⟩ := th_c hT hd c1 c2 c3 hl g
    dsimp only at p1 p2 p3 p4
    have c0 : ¬ (864 : Int32) < nI i := nI_nlt (b := i) (a := 864) (by omega) (by omega)
    rw [stt]
    cases hca : (pas T l A [] false false).2.2 with
    | false =>
      rw [hca] at p1
      rw [if_neg (by simp)]
      exact ⟨_, lp_done (it_n c0 (bnd_s e (it_p p1 rfl))), I1, rfl, p2, p3, p4⟩
    | true =>
      rw [hca] at p1
      rw [if_pos rfl]
      have hlen := pas_len (T := T) l A [] false false
      simp only [List.length_nil, Nat.zero_add] at hlen
      obtain ⟨r, er, I', q0, q1, q2, q3⟩ := ih (i + 1) (pas T l A [] false false).1 (pas T l A [] false false).2.1 I1 (by omega) (c1.fr (fun r hr => p4 _ (by omega))) p2 p3 (by omega) (pas_gh hT l A [] false false (by simpa using g))
      refine ⟨r, lp_next ?_ er, I', q0, q1, q2, p4.tr q3⟩
      rw [← nI_1]
      exact it_n c0 (bnd_s e (it_n (by rw [p1]; exact (show ¬ (1 : Int32) = 0 by decide)) rfl))
theorem sa_c {ni f t : Nat} {I : MI} {T : Tx} {A : Fl} {l : List Nat} (hT : GT T) (hd : t + 10 ≤ f ∨ f + 10 ≤ t) (c1 : CT I t T) (c2 : CG ni I f A) (c3 : CS I f l) (hl : l.length ≤ 864) (g : GH T (setD A l)) : Ok (f_X0_settleAside f t I) (fun I' => CG ni I' f (stt T 865 A l).1 ∧ CS I' f (stt T 865 A l).2 ∧ Fo f I I') := by
  obtain ⟨r, er, I', q0, q1⟩ := se_c hT hd 865 0 A l I rfl c1 c2 c3 hl g
  unfold f_X0_settleAside
  exact ok_bs er ⟨I', q0, q1⟩
