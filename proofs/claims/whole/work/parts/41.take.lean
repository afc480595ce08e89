/-! units taken from the belt -/
def tk1 (T : Tx) (A : Fl) (c : Nat) (bs : List Nat) : Fl :=
  if cnb T (setT A (flT A + 1) bs) (c / 10) then (if frb T (setT A (flT A + 1) bs) c then setD (stt T 865 (com T (setT A (flT A + 1) bs) c) (flD A)).1 (stt T 865 (com T (setT A (flT A + 1) bs) c) (flD A)).2 else com T (setT A (flT A + 1) bs) c) else setD (setT A (flT A + 1) bs) (flD A ++ [c])
def tk (T : Tx) : Nat → Fl → Fl
  | 0, A => A
  | n + 1, A => match flB A with
    | [] => A
    | c :: bs => tk T n (tk1 T A c bs)
theorem tk_nil {T : Tx} {n : Nat} {A : Fl} (h : flB A = []) : tk T n A = A := by
  cases n with
  | zero => rfl
  | succ n => rw [tk, h]
theorem tk_cons {T : Tx} {n : Nat} {A : Fl} {c : Nat} {bs : List Nat} (h : flB A = c :: bs) : tk T (n + 1) A = tk T n (tk1 T A c bs) := by rw [tk, h]
theorem tk1_B {T : Tx} {A : Fl} {c : Nat} {bs : List Nat} : flB (tk1 T A c bs) = bs := by
  unfold tk1
  split
  · split
    · show flB (stt T 865 (com T (setT A (flT A + 1) bs) c) (flD A)).1 = bs
      rw [(stt_B 865 _ _).1, com_p.2.2.2.1]
      rfl
    · rw [com_p.2.2.2.1]
      rfl
  · rfl
theorem tk_ge {T : Tx} : ∀ (n : Nat) (A : Fl), (flB A).length ≤ n → tk T n A = tk T (flB A).length A := by
  intro n
  induction n with
  | zero => intro A h; rw [show (flB A).length = 0 by omega]
  | succ n ih =>
    intro A h
    cases hB : flB A with
    | nil => rw [tk_nil hB]; rfl
    | cons c bs =>
      rw [tk_cons hB, List.length_cons, tk_cons hB]
      have e := ih (tk1 T A c bs) (by rw [tk1_B]; rw [hB, List.length_cons] at h; omega)
      rw [e, tk1_B]
theorem gh_take {T : Tx} {A : Fl} {c : Nat} {bs : List Nat} (g : GH T A) (h : flB A = c :: bs) : GHh T (setT A (flT A + 1) bs) [c] ∧ c < 160 := by
  obtain ⟨g1, g2, g3, g4, g5, g6, g7, g8, g9, g10⟩ := g
  rw [h] at g4 g5 g8
  refine ⟨⟨g1, g2, g3, fun d hd => ?_, fun d hd => g5 d (List.mem_cons_of_mem _ hd), g6, g7, ?_, ?_, g10⟩, g5 c (List.mem_cons_self ..)⟩
  · have e := g4 d hd
    show flA A d + flL A d + bs.count d + (flD A).count d + [c].count d = rel T A d
    rw [List.count_cons] at e
    rw [List.count_singleton]
    omega
  · show flT A + 1 + bs.length + sm (flL A) 0 160 = sm (rel T A) 0 160
    rw [List.length_cons] at g8
    omega
  · show (flD A).length + 1 ≤ flT A + 1
    omega
theorem gh_aside {T : Tx} {A : Fl} {c : Nat} (g : GHh T A [c]) (h1 : c < 160) : GH T (setD A (flD A ++ [c])) := by
  obtain ⟨g1, g2, g3, g4, g5, g6, g7, g8, g9, g10⟩ := g
  refine ⟨g1, g2, g3, fun d hd => ?_, g5, fun d hd => ?_, g7, g8, ?_, g10⟩
  · have e := g4 d hd
    show flA A d + flL A d + (flB A).count d + (flD A ++ [c]).count d = rel T A d
    rw [List.count_append]
    omega
  · rcases List.mem_append.mp hd with q | q
    · exact g6 d q
    · rw [List.mem_singleton.mp q]
      exact h1
  · show (flD A ++ [c]).length ≤ flT A
    rw [List.length_append]
    exact g9
theorem sd_id {A : Fl} : setD A (flD A) = A := rfl
theorem gf_tk1 {T : Tx} {A : Fl} {c : Nat} {bs : List Nat} (hT : GT T) (g : GF T A) (h : flB A = c :: bs) : GF T (tk1 T A c bs) := by
  obtain ⟨g1, h160⟩ := gh_take g.1 h
  have hno : ∀ d, d ∈ flD A → ¬ cn T (setT A (flT A + 1) bs) (d / 10) := g.2
  unfold tk1
  cases hcn : cnb T (setT A (flT A + 1) bs) (c / 10) with
  | true =>
    rw [if_pos rfl]
    have g2 := gh_com hT g1 h160 (cnb_i.mp hcn)
    have hD : flD (com T (setT A (flT A + 1) bs) c) = flD A := com_p.2.2.2.2.2
    have hlen : (flD A).length ≤ 864 := by
      have a1 := g2.2.2.2.2.2.2.2.2.1
      rw [hD] at a1
      have a2 := gh_B hT (GH.hh.mp g2)
      omega
    have g3 : GH T (setD (com T (setT A (flT A + 1) bs) c) (flD A)) := by
      rw [← hD, sd_id]
      exact g2
    cases hf : frb T (setT A (flT A + 1) bs) c with
    | true =>
      rw [if_pos rfl]
      exact stt_gf hT 865 _ _ (by omega) g3
    | false =>
      rw [if_neg (by simp)]
      refine ⟨g2, fun d hd => ?_⟩
      rw [hD] at hd
      exact cn_keep (fun o ho => (g.1.2.1 o ho).2.2.1) h160 (cnb_i.mp hcn) hf (hno d hd)
  | false =>
    rw [if_neg (by simp)]
    refine ⟨gh_aside g1 h160, fun d hd => ?_⟩
    rcases List.mem_append.mp hd with q | q
    · exact hno d q
    · rw [List.mem_singleton.mp q]
      intro w
      have : cnb T (setT A (flT A + 1) bs) (c / 10) = true := cnb_i.mpr w
      rw [hcn] at this
      cases this
theorem gf_tk {T : Tx} (hT : GT T) : ∀ (n : Nat) (A : Fl), GF T A → GF T (tk T n A) := by
  intro n
  induction n with
  | zero => intro A g; exact g
  | succ n ih =>
    intro A g
    cases hB : flB A with
    | nil => rw [tk_nil hB]; exact g
    | cons c bs => rw [tk_cons hB]; exact ih _ (gf_tk1 hT g hB)
theorem gf_D {T : Tx} {A : Fl} (hT : GT T) (g : GF T A) : (flD A).length ≤ 864 ∧ flT A + (flB A).length ≤ 864 := ⟨(gh_len hT g.1).2.1, (gh_len hT g.1).1⟩
/-- the class takes one unit -/
theorem tb_c {ni f t : Nat} {T : Tx} (hT : GT T) (hd : t + 10 ≤ f ∨ f + 10 ≤ t) : ∀ (n k : Nat) (A : Fl) (I : MI), k + n < 2 ^ 31 → CT I t T → CF ni I f A → GF T A → Ok (lp (b_X0_takeFromBelt_2 f t (nI (k + n))) (nI k, I)) (fun r => r.1 = nI (k + min n (flB A).length) ∧ CF ni r.2 f (tk T n A) ∧ Fo f I r.2) := by
  intro n
  induction n with
  | zero =>
    intro k A I hk c1 c2 g
    exact ⟨_, lp_done (it_n (nI_nlt (Nat.le_refl _) (by omega)) rfl), by simp, c2, Fo.rf⟩
  | succ n ih =>
    intro k A I hk c1 c2 g
    obtain ⟨hD8, hB8⟩ := gf_D hT g
    have c0 : nI k < nI (k + (n + 1)) := nI_lt (by omega) hk
    obtain ⟨b1, b2⟩ := CF.sp.mp c2
    obtain ⟨e9, e10, e8⟩ := b1.2.2.2.2.2.2.1
    cases hB : flB A with
    | nil =>
      rw [tk_nil hB]
      rw [hB] at e10
      refine ⟨_, lp_done (it_p c0 (it_n (by show ¬ I f 9 < I f 10; rw [e9, e10]; exact nI_nlt (Nat.le_refl _) (by omega)) rfl)), by simp, c2, Fo.rf⟩
    | cons c bs =>
      rw [tk_cons hB]
      rw [hB, List.length_cons] at e10 hB8
      rw [hB] at e8
      obtain ⟨g1, h160⟩ := gh_take g.1 hB
      have ho : c / 10 < 16 := by omega
      have r0 : rd 864 (I (f + 8)) (I f 9) = some (nI c) := rd_v (flT A) e9 (by omega) (by omega) (e8 0 c rfl)
      have c9 : I f 9 < I f 10 := by rw [e9, e10]; exact nI_lt (by omega) (by omega)
      obtain ⟨I7, hI7⟩ : ∃ I7, I7 = mst I f 9 (nI (flT A + 1)) := ⟨_, rfl⟩
      have w9 : wf I f 9 (I f 9 + 1) = some I7 := by rw [e9, nI_1, hI7]; rfl
      have fo7 : Fo f I I7 := by rw [hI7]; exact Fo.m0
      have ct7 : CT I7 t T := c1.fr (fun r hr => fo7 _ (by omega))
      have cs7 : CS I7 f (flD A) := b2.fr (by rw [hI7, mst_row _ _ _ (by omega)]) (by rw [hI7, mst_ne _ _ (Or.inr (by omega))])
      have cg7 : CG ni I7 f (setT A (flT A + 1) bs) := by
        obtain ⟨q1, q2, q3, q4, q5, q6, _, q8, q9⟩ := b1
        rw [hI7]
        refine ⟨by rw [mst_row _ _ _ (by omega)]; exact q1, by rw [mst_row _ _ _ (by omega)]; exact q2, by rw [mst_row _ _ _ (by omega)]; exact q3, by rw [mst_row _ _ _ (by omega)]; exact q4, by rw [mst_row _ _ _ (by omega)]; exact q5, by rw [mst_row _ _ _ (by omega)]; exact q6, ⟨mst_self _ _ _ _, ?_, ?_⟩, by rw [mst_ne _ _ (Or.inr (by omega))]; exact q8, by rw [mst_row _ _ _ (by omega)]; exact q9⟩
        · rw [mst_ne _ _ (Or.inr (by omega)), e10]
          show _ = nI (flT A + 1 + bs.length)
          congr 1
          omega
        · rw [mst_row _ _ _ (by omega)]
          exact ls_shift e8
      have cc := cc_c ct7 cg7 hT.2.2.1.2 g1.2.2.1 ho (g1.2.1 _ ho).1
      have go : ∀ I8 : MI, b_X0_takeFromBelt_2 f t (nI (k + (n + 1))) (nI k, I) = some (.inl (nI k + 1, I8)) → CF ni I8 f (tk1 T A c bs) → Fo f I I8 → Ok (lp (b_X0_takeFromBelt_2 f t (nI (k + (n + 1)))) (nI k, I)) (fun r => r.1 = nI (k + min (n + 1) (c :: bs).length) ∧ CF ni r.2 f (tk T n (tk1 T A c bs)) ∧ Fo f I r.2) := by
        intro I8 h1 h2 h3
        obtain ⟨r, er, q1, q2, q3⟩ := ih (k + 1) (tk1 T A c bs) I8 (by omega) (c1.fr (fun r hr => h3 _ (by omega))) h2 (gf_tk1 hT g hB)
        rw [show k + 1 + n = k + (n + 1) by omega] at er
        rw [nI_1] at h1
        refine ⟨r, lp_next h1 er, ?_, q2, h3.tr q3⟩
        rw [q1, tk1_B, List.length_cons]
        congr 1
        omega
      have odv : f_X4_orderOfUnit (nI c) = some (nI (c / 10)) := congrArg some (dv10 c h160)
      cases hcn : cnb T (setT A (flT A + 1) bs) (c / 10) with
      | false =>
        rw [hcn] at cc
        have hd864 : (flD A).length < 864 := by
          have : (flD A).length + 1 ≤ flT A + 1 := g1.2.2.2.2.2.2.2.2.1
          omega
        have pa : f_X0_putAside f (nI c) I7 = some (mst (mst I7 (f + 9) (flD A).length (nI c)) f 12 (nI ((flD A).length + 1))) := by
          unfold f_X0_putAside
          refine bnd_s (it_p (by rw [cs7.1]; exact nI_lt (b := 864) hd864 (by omega)) (bnd_s (wr_k (flD A).length cs7.1 hd864 (by omega)) (bnd_s rfl rfl))) ?_
          rw [mst_ne _ _ (Or.inl (by omega)), cs7.1, nI_1]
        refine go (mst (mst I7 (f + 9) (flD A).length (nI c)) f 12 (nI ((flD A).length + 1))) ?_ ?_ ((fo7.tr (Fo.ms (by omega))).tr Fo.m0)
        · exact it_p c0 (it_p c9 (bnd_s r0 (bnd_s w9 (bnd_s odv (bnd_s cc (bnd_s (it_p rfl (bnd_s pa rfl)) rfl))))))
        · unfold tk1
          rw [hcn, if_neg (by simp)]
          refine CF.sp.mpr ⟨?_, ?_, ?_⟩
          · exact cg7.fr (fun r h1 h2 => by rw [mst_row _ _ _ (by omega), mst_row _ _ _ (by omega)]) ⟨by rw [mst_ne _ _ (Or.inr (by omega)), mst_ne _ _ (Or.inl (by omega))], by rw [mst_ne _ _ (Or.inr (by omega)), mst_ne _ _ (Or.inl (by omega))], by rw [mst_ne _ _ (Or.inr (by omega)), mst_ne _ _ (Or.inl (by omega))]⟩
          · rw [mst_self]
            show _ = nI (flD A ++ [c]).length
            rw [List.length_append]
            rfl
          · rw [mst_row _ _ _ (by omega), ms_r]
            exact ls_snoc cs7.2
      | true =>
        rw [hcn] at cc
        have hcm := gh_cm hT g1 h160 (cnb_i.mp hcn)
        obtain ⟨⟨v, I9⟩, ec, p1, p2, p3, p4, p5⟩ := co_c ct7 hd cg7 hcm
        dsimp only at p1 p2 p3 p4 p5
        have cs9 : CS I9 f (flD A) := cs7.fr p3 p4
        have ct9 : CT I9 t T := ct7.fr (fun r hr => p5 _ (by omega))
        have g2 := gh_com hT g1 h160 (cnb_i.mp hcn)
        have hD : flD (com T (setT A (flT A + 1) bs) c) = flD A := com_p.2.2.2.2.2
        cases hf : frb T (setT A (flT A + 1) bs) c with
        | false =>
          rw [hf] at p1
          refine go I9 ?_ ?_ (fo7.tr p5)
          · exact it_p c0 (it_p c9 (bnd_s r0 (bnd_s w9 (bnd_s odv (bnd_s cc (bnd_s (it_n (by decide) (bnd_s ec (it_p p1 rfl))) rfl))))))
          · unfold tk1
            rw [hcn, if_pos rfl, hf, if_neg (by simp)]
            exact CF.sp.mpr ⟨p2, by rw [hD]; exact cs9⟩
        | true =>
          rw [hf] at p1
          have g3 : GH T (setD (com T (setT A (flT A + 1) bs) c) (flD A)) := by
            rw [← hD, sd_id]
            exact g2
          obtain ⟨I10, es, s1, s2, s3⟩ := sa_c hT hd ct9 p2 cs9 hD8 g3
          refine go I10 ?_ ?_ ((fo7.tr p5).tr s3)
          · exact it_p c0 (it_p c9 (bnd_s r0 (bnd_s w9 (bnd_s odv (bnd_s cc (bnd_s (it_n (by decide) (bnd_s ec (it_n (by rw [p1]; exact (show ¬ (1 : Int32) = 0 by decide)) (bnd_s es rfl)))) rfl))))))
          · unfold tk1
            rw [hcn, if_pos rfl, hf, if_pos rfl]
            exact CF.sp.mpr ⟨s1, s2⟩
theorem ta_c {ni f t n : Nat} {I : MI} {T : Tx} {A : Fl} (hT : GT T) (hd : t + 10 ≤ f ∨ f + 10 ≤ t) (hn : n < 2 ^ 31) (c1 : CT I t T) (c2 : CF ni I f A) (g : GF T A) : Ok (f_X0_takeFromBelt f t (nI n) I) (fun r => r.1 = nI (min n (flB A).length) ∧ CF ni r.2 f (tk T n A) ∧ Fo f I r.2) := by
  obtain ⟨r, er, q1, q2, q3⟩ := tb_c hT hd n 0 A I (by omega) c1 c2 g
  rw [Nat.zero_add] at er q1
  unfold f_X0_takeFromBelt
  exact ok_bs er (ok_some ⟨q1, q2, q3⟩)
/-- the reference's -/
theorem go_m {ni m : Nat} {T : Tx} {J : MJ} (hT : GT T) (hi : ni ≤ 10) : ∀ (n k : Nat) (A : Fl) (K : MI), k + n < 2 ^ 31 → MT K m T → MF ni (K (m + 13)) A → GF T A → Ok (lp (b_X5_goes_2 m (nI (k + n)) J) (nI k, K)) (fun r => r.1 = nI (k + min n (flB A).length) ∧ MF ni (r.2 (m + 13)) (tk T n A) ∧ ∀ a, a ≠ m + 13 → r.2 a = K a) := by
  intro n
  induction n with
  | zero =>
    intro k A K hk c1 c2 g
    exact ⟨_, lp_done (it_n (nI_nlt (Nat.le_refl _) (by omega)) rfl), by simp, c2, fun _ _ => rfl⟩
  | succ n ih =>
    intro k A K hk c1 c2 g
    obtain ⟨hD8, hB8⟩ := gf_D hT g
    have c0 : nI k < nI (k + (n + 1)) := nI_lt (by omega) hk
    obtain ⟨b1, b2⟩ := MF.sp.mp c2
    obtain ⟨e370, e371⟩ := b1.2.2.2.2.2.2.1
    have r1 : rd 2117 (K (m + 13)) 370 = some (nI (flB A).length) := rd_v 370 rfl (by omega) (by omega) e370
    cases hB : flB A with
    | nil =>
      rw [tk_nil hB]
      rw [hB] at r1
      refine ⟨_, lp_done (it_p c0 (bnd_s r1 (it_n (by decide) rfl))), by simp, c2, fun _ _ => rfl⟩
    | cons c bs =>
      rw [tk_cons hB]
      rw [hB] at e370 e371 r1
      rw [hB, List.length_cons] at hB8
      obtain ⟨g1, h160⟩ := gh_take g.1 hB
      have ho : c / 10 < 16 := by omega
      have c9 : (0 : Int32) < nI (c :: bs).length := (nI_p0 (by rw [List.length_cons]; omega)).mpr (by rw [List.length_cons]; omega)
      have r2 : rd 2117 (K (m + 13)) 371 = some (nI c) := rd_v 371 rfl (by omega) (by omega) (e371 0 c rfl)
      obtain ⟨K1, e1, d1, d2, d3, d4⟩ := dr_m (first := 371) (many := 370) (k := 0) (J := J) (a := 371) (b := 370) rfl rfl rfl (by omega) (by rw [List.length_cons]; omega) e370 e371 (by rw [List.length_cons]; omega)
      rw [List.length_cons, Nat.add_sub_cancel] at d1
      have d2' : lsr (K1 (m + 13)) 371 bs := d2
      rw [List.length_cons] at d3
      have ct1 : MT K1 m T := c1.fr (fun r hr => d4 _ (by omega))
      have cs1 : MS (K1 (m + 13)) (flD A) := b2.cg (fun k h1 h2 => d3 k (by omega)) hD8
      have cg1 : MG ni (K1 (m + 13)) (setT A (flT A + 1) bs) := by
        obtain ⟨q1, q2, q3, q4, q5, q6, _, q8, q9⟩ := b1
        exact ⟨fun i h => (d3 _ (by omega)).trans (q1 i h), fun i h => (d3 _ (by omega)).trans (q2 i h), fun i h => (d3 _ (by omega)).trans (q3 i h), fun i h => (d3 _ (by omega)).trans (q4 i h), fun i h => (d3 _ (by omega)).trans (q5 i h), fun i h => (d3 _ (by omega)).trans (q6 i h), ⟨d1, d2'⟩, (d3 _ (by omega)).trans q8, fun j d hj => (d3 _ (by omega)).trans (q9 j d hj)⟩
      have cc := cc_m (J := J) ct1 cg1 hT.2.2.1.2 g1.2.2.1 ho (g1.2.1 _ ho).1
      have hbs : (flB (setT A (flT A + 1) bs)).length ≤ 864 := by show bs.length ≤ 864; omega
      have go : ∀ K8 : MI, b_X5_goes_2 m (nI (k + (n + 1))) J (nI k, K) = some (.inl (nI k + 1, K8)) → MF ni (K8 (m + 13)) (tk1 T A c bs) → (∀ a, a ≠ m + 13 → K8 a = K a) → Ok (lp (b_X5_goes_2 m (nI (k + (n + 1))) J) (nI k, K)) (fun r => r.1 = nI (k + min (n + 1) (c :: bs).length) ∧ MF ni (r.2 (m + 13)) (tk T n (tk1 T A c bs)) ∧ ∀ a, a ≠ m + 13 → r.2 a = K a) := by
        intro K8 h1 h2 h3
        obtain ⟨r, er, q1, q2, q3⟩ := ih (k + 1) (tk1 T A c bs) K8 (by omega) (c1.fr (fun r hr => h3 _ (by omega))) h2 (gf_tk1 hT g hB)
        rw [show k + 1 + n = k + (n + 1) by omega] at er
        rw [nI_1] at h1
        refine ⟨r, lp_next h1 er, ?_, q2, fun a ha => (q3 a ha).trans (h3 a ha)⟩
        rw [q1, tk1_B, List.length_cons]
        congr 1
        omega
      cases hcn : cnb T (setT A (flT A + 1) bs) (c / 10) with
      | false =>
        rw [hcn] at cc
        have hd864 : (flD A).length < 864 := by
          have : (flD A).length + 1 ≤ flT A + 1 := g1.2.2.2.2.2.2.2.2.1
          omega
        refine go (mst (mst K1 (m + 13) (1236 + (flD A).length) (nI c)) (m + 13) 1235 (nI ((flD A).length + 1))) ?_ ?_ (fun a ha => by rw [mst_row _ _ _ ha, mst_row _ _ _ ha]; exact d4 a ha)
        · refine it_p c0 (bnd_s r1 (it_p c9 (bnd_s r2 (bnd_s e1 ?_))))
          rw [dv10 c h160]
          refine bnd_s cc (bnd_s (it_p rfl (bnd_s (rd_v 1235 rfl (by omega) (by omega) cs1.1) (bnd_s (wr_k (1236 + (flD A).length) (ci_a rfl _) (by omega) (by omega)) (bnd_s (rd_v (v := nI (flD A).length) 1235 rfl (by omega) (by omega) (by rw [mst_ne _ _ (Or.inr (by omega))]; exact cs1.1)) (bnd_s (wr_k 1235 rfl (by omega) (by omega)) rfl))))) ?_)
          rw [nI_1, nI_1]
        · unfold tk1
          rw [hcn, if_neg (by simp)]
          refine MF.sp.mpr ⟨?_, ?_, ?_⟩
          · exact cg1.cg (fun j hj => by rw [ms_r, ms_r, pu_n (by omega), pu_n (by omega)]) hi hbs
          · rw [mst_self]
            show _ = nI (flD A ++ [c]).length
            rw [List.length_append]
            rfl
          · rw [ms_r, ms_r]
            intro j d hj
            rw [pu_n (by omega)]
            rcases ls_app hj with q | ⟨q1, q2⟩
            · have := ls_lt q
              rw [pu_n (by omega)]
              exact cs1.2 j d q
            · rw [q1, q2, pu_s]
      | true =>
        rw [hcn] at cc
        have hcm := gh_cm hT g1 h160 (cnb_i.mp hcn)
        obtain ⟨K2, e2, f1, f2, f3⟩ := co_m (J := J) ct1 hi cg1 hcm
        have cs2 : MS (K2 (m + 13)) (flD A) := cs1.cg f2 hD8
        have ct2 : MT K2 m T := ct1.fr (fun r hr => f3 _ (by omega))
        have g2 := gh_com hT g1 h160 (cnb_i.mp hcn)
        have hD : flD (com T (setT A (flT A + 1) bs) c) = flD A := com_p.2.2.2.2.2
        have g3 : GH T (setD (com T (setT A (flT A + 1) bs) c) (flD A)) := by
          rw [← hD, sd_id]
          exact g2
        have step : ∀ K3, f_X5_settles m J K2 = some K3 → b_X5_goes_2 m (nI (k + (n + 1))) J (nI k, K) = some (.inl (nI k + 1, K3)) := by
          intro K3 es
          refine it_p c0 (bnd_s r1 (it_p c9 (bnd_s r2 (bnd_s e1 ?_))))
          rw [dv10 c h160]
          refine bnd_s cc (bnd_s (it_n (by decide) ?_) rfl)
          rw [← dv10 c h160, md10 c h160, dv10 c h160]
          exact bnd_s e2 (bnd_s es rfl)
        cases hf : frb T (setT A (flT A + 1) bs) c with
        | false =>
          have hno : ∀ d, d ∈ flD A → ¬ cn T (com T (setT A (flT A + 1) bs) c) (d / 10) := fun d hd => cn_keep (fun o ho => (g.1.2.1 o ho).2.2.1) h160 (cnb_i.mp hcn) hf (g.2 d hd)
          obtain ⟨K3, es, s1, s2, s3⟩ := sa_mn (J := J) hT hi ct2 f1 cs2 g3 hno
          refine go K3 (step K3 es) ?_ (fun a ha => ((s3 a ha).trans (f3 a ha)).trans (d4 a ha))
          unfold tk1
          rw [hcn, if_pos rfl, hf, if_neg (by simp)]
          exact MF.sp.mpr ⟨s1, by rw [hD]; exact s2⟩
        | true =>
          obtain ⟨K3, es, s1, s2, s3⟩ := sa_m (J := J) hT hi ct2 f1 cs2 g3
          refine go K3 (step K3 es) ?_ (fun a ha => ((s3 a ha).trans (f3 a ha)).trans (d4 a ha))
          unfold tk1
          rw [hcn, if_pos rfl, hf, if_pos rfl]
          exact MF.sp.mpr ⟨s1, s2⟩
theorem ta_m {ni m n : Nat} {K : MI} {J : MJ} {T : Tx} {A : Fl} (hT : GT T) (hi : ni ≤ 10) (hn : n < 2 ^ 31) (c1 : MT K m T) (c2 : MF ni (K (m + 13)) A) (g : GF T A) : Ok (f_X5_goes m (nI n) J K) (fun r => r.1 = nI (min n (flB A).length) ∧ MF ni (r.2 (m + 13)) (tk T n A) ∧ ∀ a, a ≠ m + 13 → r.2 a = K a) := by
  obtain ⟨r, er, q1, q2, q3⟩ := go_m (J := J) hT hi n 0 A K (by omega) c1 c2 g
  rw [Nat.zero_add] at er q1
  unfold f_X5_goes
  exact ok_bs er (ok_some ⟨q1, q2, q3⟩)
