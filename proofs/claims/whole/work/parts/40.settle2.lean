/-! the reference's: a place dropped, units aside settled -/
theorem dr_m {m first many k : Nat} {K : MI} {J : MJ} {l : List Nat} {a b : Int32} (ha : a = nI first) (hb : b = nI many) (hmn : many + 1 = first) (hf : first + 864 ≤ 2117) (hl : l.length ≤ 864) (h1 : K (m + 13) many = nI l.length) (h2 : lsr (K (m + 13)) first l) (hk : k < l.length) : Ok (f_X5_drops m a b (nI k) J K) (fun K' => K' (m + 13) many = nI (l.length - 1) ∧ lsr (K' (m + 13)) first (l.eraseIdx k) ∧ (∀ j, j < many ∨ first + l.length ≤ j → K' (m + 13) j = K (m + 13) j) ∧ ∀ c, c ≠ m + 13 → K' c = K c) := by
  subst ha hb
  unfold f_X5_drops
  obtain ⟨g, hg⟩ : ∃ g : Nat → Int32, g = fun j => K (m + 13) (first + k + j + 1) := ⟨_, rfl⟩
  have e0 : (nI k, K) = (fun j => (nI (k + j), sr K (m + 13) (ffl (K (m + 13)) (first + k) j g))) 0 := by
    show (nI k, K) = (nI (k + 0), sr K (m + 13) (ffl (K (m + 13)) (first + k) 0 g))
    rw [ffl_0, sr_id]
    rfl
  have hmany : ∀ j, rd 2117 (sr K (m + 13) (ffl (K (m + 13)) (first + k) j g) (m + 13)) (nI many) = some (nI l.length) := fun j => rd_v many rfl (by omega) (by omega) (by rw [sr_s, ffl_o (by omega)]; exact h1)
  have hloop : lp (b_X5_drops_3 m (nI first) (nI many)) (nI k, K) = some (nI (k + (l.length - 1 - k)), sr K (m + 13) (ffl (K (m + 13)) (first + k) (l.length - 1 - k) g)) := by
    rw [e0]
    refine lp_fs (fun j => (nI (k + j), sr K (m + 13) (ffl (K (m + 13)) (first + k) j g))) (l.length - 1 - k) (fun j hj => ?_) ?_
    · refine bnd_s (hmany j) (it_p (by dsimp only; rw [nI_1]; exact nI_lt (by omega) (by omega)) ?_)
      refine bnd_s (rd_v (v := g j) (first + k + j + 1) ?_ (by omega) (by omega) ?_) ?_
      · dsimp only
        rw [nI_add, nI_1]
        congr 1
        omega
      · dsimp only
        rw [sr_s, ffl_o (by omega), hg]
      · refine bnd_s (wr_k (first + k + j) ?_ (by omega) (by omega)) ?_
        · dsimp only
          rw [nI_add]
          congr 1
          omega
        · dsimp only
          rw [sr_m, ffl_n, nI_1]
          rfl
    · refine bnd_s (hmany _) (it_n (by dsimp only; rw [nI_1]; exact nI_nlt (by omega) (by omega)) rfl)
  refine ok_bs hloop (ok_bs (hmany _) ?_)
  obtain ⟨q, hq⟩ : ∃ q, l.length = q + 1 := ⟨l.length - 1, by omega⟩
  rw [hq, nI_pred]
  refine ok_wr many rfl (by omega) (by omega) (ok_some ⟨?_, fun j d hj => ?_, fun j hj => ?_, fun c hc => ?_⟩)
  · rw [mst_self]
    rfl
  · rw [ms_r, pu_n (by omega)]
    dsimp only
    rw [sr_s]
    rw [List.getElem?_eraseIdx] at hj
    split at hj
    · have := ls_lt hj
      rw [ffl_o (by omega)]
      exact h2 j d hj
    · have := ls_lt hj
      rw [show first + j = first + k + (j - k) by omega, ffl_i (by omega), hg]
      have := h2 (j + 1) d hj
      dsimp only
      rw [show first + k + (j - k) + 1 = first + (j + 1) by omega]
      exact this
  · rw [ms_r, pu_n (by omega)]
    dsimp only
    rw [sr_s, ffl_o (by omega)]
  · rw [mst_row _ _ _ hc]
    exact sr_o hc
theorem MG.cg {ni : Nat} {S S' : Nat → Int32} {A : Fl} (h : MG ni S A) (e : ∀ k, k < 1235 ∨ 2100 ≤ k → S' k = S k) (hi : ni ≤ 10) (hB : (flB A).length ≤ 864) : MG ni S' A := by
  obtain ⟨h1, h2, h3, h4, h5, h6, ⟨h7, h8⟩, h9, h10⟩ := h
  refine ⟨fun i hi2 => (e _ (by omega)).trans (h1 i hi2), fun o ho => (e _ (by omega)).trans (h2 o ho), fun o ho => (e _ (by omega)).trans (h3 o ho), fun o ho => (e _ (by omega)).trans (h4 o ho), fun o ho => (e _ (by omega)).trans (h5 o ho), fun o ho => (e _ (by omega)).trans (h6 o ho), ⟨(e _ (by omega)).trans h7, fun k c hk => ?_⟩, (e _ (by omega)).trans h9, fun k c hk => (e _ (by omega)).trans (h10 k c hk)⟩
  have := ls_lt hk
  exact (e _ (by omega)).trans (h8 k c hk)
theorem MS.cg {S S' : Nat → Int32} {l : List Nat} (h : MS S l) (e : ∀ k, 1235 ≤ k → k < 2100 → S' k = S k) (hl : l.length ≤ 864) : MS S' l := ⟨(e _ (by omega) (by omega)).trans h.1, fun k c hk => by
  have := ls_lt hk
  exact (e _ (by omega) (by omega)).trans (h.2 k c hk)⟩
theorem er_mid {dn td : List Nat} {c : Nat} : (dn ++ c :: td).eraseIdx dn.length = dn ++ td := by
  rw [List.eraseIdx_append_of_length_le (Nat.le_refl _), Nat.sub_self]
  rfl
theorem cont_c {T : Tx} {n : Nat} {A : Fl} {c : Nat} {td dn : List Nat} {ca : Bool} (h : cnb T A (c / 10) = true) : cont T n (c :: td) A dn false ca = cont T n td (com T A c) dn (frb T A c) true := by
  unfold cont
  rw [pas]
  simp [h]
theorem cont_s {T : Tx} {n : Nat} {A : Fl} {c : Nat} {td dn : List Nat} {ca : Bool} (h : cnb T A (c / 10) = false) : cont T n (c :: td) A dn false ca = cont T n td A (dn ++ [c]) false ca := by
  unfold cont
  rw [pas]
  simp [h]
theorem st_m {ni m : Nat} {T : Tx} {J : MJ} (hT : GT T) (hi : ni ≤ 10) : ∀ (len n : Nat) (td dn : List Nat) (A : Fl) (ca : Bool) (K : MI), (dn ++ td).length = len → len ≤ n → (∀ c, c ∈ dn → ¬ cn T A (c / 10)) → MT K m T → MG ni (K (m + 13)) A → MS (K (m + 13)) (dn ++ td) → GH T (setD A (dn ++ td)) → Ok (lp (b_X5_settles_2 m J) (nI dn.length, K)) (fun r => MG ni (r.2 (m + 13)) (cont T n td A dn false ca).1 ∧ MS (r.2 (m + 13)) (cont T n td A dn false ca).2 ∧ ∀ a, a ≠ m + 13 → r.2 a = K a) := by
  intro len
  induction len using Nat.strongRecOn with
  | ind len ihL =>
    intro n td
    induction td with
    | nil =>
      intro dn A ca K h1 h2 h3 m1 m2 m3 g
      rw [List.append_nil] at m3 g h1
      have hle : dn.length ≤ 864 := by
        have a1 : dn.length ≤ flT A := g.2.2.2.2.2.2.2.2.1
        have a2 := gh_B hT (GH.hh.mp g)
        have a3 : flT (setD A dn) = flT A := rfl
        omega
      have e : cont T n [] A dn false ca = (A, dn) := by
        unfold cont
        rw [pas]
        cases ca with
        | true => exact stt_no h3
        | false => rfl
      rw [e]
      refine ⟨_, lp_done (bnd_s (rd_v 1235 rfl (by omega) (by omega) m3.1) (it_n (nI_nlt (Nat.le_refl _) (by omega)) rfl)), m2, m3, fun _ _ => rfl⟩
    | cons c td ih =>
      intro dn A ca K h1 h2 h3 m1 m2 m3 g
      have hlen : dn.length + (td.length + 1) = len := by
        rw [← h1, List.length_append, List.length_cons]
      have a2 := gh_B hT (GH.hh.mp g)
      have hle : (dn ++ c :: td).length ≤ 864 := by
        have a1 : (dn ++ c :: td).length ≤ flT A := g.2.2.2.2.2.2.2.2.1
        have a3 : flT (setD A (dn ++ c :: td)) = flT A := rfl
        omega
      have hB : (flB A).length ≤ 864 := by
        have a3 : flB (setD A (dn ++ c :: td)) = flB A := rfl
        rw [a3] at a2
        omega
      obtain ⟨_, h160⟩ := gh_hand g
      have ho : c / 10 < 16 := by omega
      have hget : (dn ++ c :: td)[dn.length]? = some c := by
        rw [List.getElem?_append_right (Nat.le_refl _), Nat.sub_self]
        rfl
      have cc := cc_m (J := J) m1 m2 hT.2.2.1.2 g.2.2.1 ho (g.2.1 _ ho).1
      have r1 : rd 2117 (K (m + 13)) 1235 = some (nI (dn ++ c :: td).length) := rd_v 1235 rfl (by omega) (by omega) m3.1
      have r2 : rd 2117 (K (m + 13)) (1236 + nI dn.length) = some (nI c) := rd_v (1236 + dn.length) (ci_a rfl _) (by omega) (by omega) (m3.2 dn.length c hget)
      have c0 : nI dn.length < nI (dn ++ c :: td).length := nI_lt (by rw [List.length_append, List.length_cons]; omega) (by omega)
      cases hcn : cnb T A (c / 10) with
      | false =>
        rw [cont_s hcn]
        obtain ⟨r, er, q⟩ := ih (dn ++ [c]) A ca K (by rw [List.append_assoc]; exact h1) h2 (fun d hd => by
          rcases List.mem_append.mp hd with q | q
          · exact h3 d q
          · rw [List.mem_singleton.mp q, ← cnb_i, hcn]
            simp) m1 m2 (by rw [List.append_assoc]; exact m3) (by rw [List.append_assoc]; exact g)
        refine ⟨r, lp_next ?_ er, q⟩
        rw [hcn] at cc
        rw [List.length_append, show dn.length + [c].length = dn.length + 1 from rfl, ← nI_1]
        refine bnd_s r1 (it_p c0 (bnd_s r2 ?_))
        rw [dv10 c h160]
        exact bnd_s cc (it_p rfl rfl)
      | true =>
        rw [cont_c hcn]
        rw [hcn] at cc
        obtain ⟨g2, hcm⟩ := gh_step hT g (cnb_i.mp hcn)
        obtain ⟨K1, e1, d1, d2, d3, d4⟩ := dr_m (first := 1236) (many := 1235) (J := J) (a := 1236) (b := 1235) rfl rfl rfl (by omega) hle m3.1 m3.2 (k := dn.length) (by rw [List.length_append, List.length_cons]; omega)
        rw [er_mid] at d2
        have hlen2 : (dn ++ c :: td).length - 1 = (dn ++ td).length := by rw [List.length_append, List.length_cons, List.length_append]; omega
        rw [hlen2] at d1
        have m2' : MG ni (K1 (m + 13)) A := m2.cg (fun k hk => d3 k (by omega)) hi hB
        have m1' : MT K1 m T := m1.fr (fun r hr => d4 _ (by omega))
        obtain ⟨K2, e2, f1, f2, f3⟩ := co_m (J := J) m1' hi m2' hcm
        have m3' : MS (K2 (m + 13)) (dn ++ td) := MS.cg (S := K1 (m + 13)) ⟨d1, d2⟩ f2 (by omega)
        have m1'' : MT K2 m T := m1'.fr (fun r hr => f3 _ (by omega))
        have hK2 : ∀ a, a ≠ m + 13 → K2 a = K a := fun a ha => (f3 a ha).trans (d4 a ha)
        have step : b_X5_settles_2 m J (nI dn.length, K) = some (.inl (0, K2)) := by
          refine bnd_s r1 (it_p c0 (bnd_s r2 ?_))
          rw [dv10 c h160]
          refine bnd_s cc (it_n (by decide) (bnd_s e1 ?_))
          rw [← dv10 c h160, md10 c h160, dv10 c h160]
          exact bnd_s e2 rfl
        have hlt : (dn ++ td).length < len := by rw [List.length_append]; omega
        cases hfr : frb T A c with
        | true =>
          obtain ⟨n', rfl⟩ : ∃ n', n = n' + 1 := ⟨n - 1, by omega⟩
          have e : cont T (n' + 1) td (com T A c) dn true true = cont T n' (dn ++ td) (com T A c) [] false false := by
            unfold cont
            rw [pas_fr, if_pos rfl, stt]
          rw [e]
          obtain ⟨r, er, q1, q2, q3⟩ := ihL (dn ++ td).length hlt n' (dn ++ td) [] (com T A c) false K2 rfl (by omega) (fun d hd => nomatch hd) m1'' f1 m3' g2
          exact ⟨r, lp_next step er, q1, q2, fun a ha => (q3 a ha).trans (hK2 a ha)⟩
        | false =>
          have hkeep : ∀ d, d ∈ dn → ¬ cn T (com T A c) (d / 10) := fun d hd => cn_keep (fun o ho => (g.2.1 o ho).2.2.1) h160 (cnb_i.mp hcn) hfr (h3 d hd)
          obtain ⟨r, er, q1, q2, q3⟩ := ihL (dn ++ td).length hlt n td dn (com T A c) true K2 rfl (by omega) hkeep m1'' f1 m3' g2
          refine ⟨r, lp_next step ?_, q1, q2, fun a ha => (q3 a ha).trans (hK2 a ha)⟩
          refine lp_seq (fun j => (nI j, K2)) dn.length (fun j hj => ?_) er
          obtain ⟨d, hd⟩ := ls_get hj
          have hmem : d ∈ dn := List.mem_of_getElem? hd
          have hg2 : (dn ++ td)[j]? = some d := by rw [List.getElem?_append_left hj]; exact hd
          have hd160 : d < 160 := g.2.2.2.2.2.1 d (List.mem_append_left _ hmem)
          have cc2 := cc_m (J := J) m1'' f1 hT.2.2.1.2 g2.2.2.1 (show d / 10 < 16 by omega) (g2.2.1 _ (by omega)).1
          have hdn : cnb T (com T A c) (d / 10) = false := by
            have := hkeep d hmem
            rw [← cnb_i] at this
            simpa using this
          rw [hdn] at cc2
          rw [← nI_1]
          refine bnd_s (rd_v 1235 rfl (by omega) (by omega) m3'.1) (it_p (nI_lt (by rw [List.length_append]; omega) (by omega)) (bnd_s (rd_v (1236 + j) (ci_a rfl _) (by omega) (by omega) (m3'.2 j d hg2)) ?_))
          rw [dv10 d hd160]
          exact bnd_s cc2 (it_p rfl rfl)
theorem sa_m {ni m : Nat} {K : MI} {J : MJ} {T : Tx} {A : Fl} {l : List Nat} (hT : GT T) (hi : ni ≤ 10) (m1 : MT K m T) (m2 : MG ni (K (m + 13)) A) (m3 : MS (K (m + 13)) l) (g : GH T (setD A l)) : Ok (f_X5_settles m J K) (fun K' => MG ni (K' (m + 13)) (stt T 865 A l).1 ∧ MS (K' (m + 13)) (stt T 865 A l).2 ∧ ∀ a, a ≠ m + 13 → K' a = K a) := by
  have hle : l.length ≤ 864 := by
    have a1 : l.length ≤ flT A := g.2.2.2.2.2.2.2.2.1
    have a2 := gh_B hT (GH.hh.mp g)
    have a3 : flT (setD A l) = flT A := rfl
    omega
  obtain ⟨r, er, q⟩ := st_m (J := J) hT hi l.length 864 l [] A false K rfl hle (fun d hd => nomatch hd) m1 m2 m3 g
  unfold f_X5_settles
  exact ok_bs er (ok_some q)
/-- nothing moves where nothing can come -/
theorem sa_mn {ni m : Nat} {K : MI} {J : MJ} {T : Tx} {A : Fl} {l : List Nat} (hT : GT T) (hi : ni ≤ 10) (m1 : MT K m T) (m2 : MG ni (K (m + 13)) A) (m3 : MS (K (m + 13)) l) (g : GH T (setD A l)) (hn : ∀ c, c ∈ l → ¬ cn T A (c / 10)) : Ok (f_X5_settles m J K) (fun K' => MG ni (K' (m + 13)) A ∧ MS (K' (m + 13)) l ∧ ∀ a, a ≠ m + 13 → K' a = K a) := by
  have h := sa_m (J := J) hT hi m1 m2 m3 g
  rw [stt_no hn] at h
  exact h
/-- behind the settling nothing aside can come -/
theorem pas_end {T : Tx} : ∀ (td : List Nat) (A : Fl) (dn : List Nat), (pas T td A dn false false).2.2 = false → (pas T td A dn false false).1 = A ∧ (pas T td A dn false false).2.1 = dn ++ td ∧ ∀ c, c ∈ td → ¬ cn T A (c / 10) := by
  intro td
  induction td with
  | nil => intro A dn _; exact ⟨rfl, by rw [pas, List.append_nil], fun c hc => nomatch hc⟩
  | cons c td ih =>
    intro A dn h
    rw [pas] at h ⊢
    cases hcn : cnb T A (c / 10) with
    | true =>
      rw [hcn] at h
      simp only [Bool.not_false, Bool.and_self, if_true] at h
      have := (pas_len (T := T) td (com T A c) dn (frb T A c) true).2.mpr (Or.inl rfl)
      rw [this] at h
      cases h
    | false =>
      rw [hcn] at h
      simp only [Bool.not_false, Bool.and_false, Bool.false_eq_true, if_false] at h ⊢
      obtain ⟨a, b, d⟩ := ih A (dn ++ [c]) h
      refine ⟨a, by rw [b, List.append_assoc]; rfl, fun e he => ?_⟩
      rcases List.mem_cons.mp he with q | q
      · rw [q, ← cnb_i, hcn]
        simp
      · exact d e q
theorem stt_gf {T : Tx} (hT : GT T) : ∀ (n : Nat) (A : Fl) (l : List Nat), l.length < n → GH T (setD A l) → GF T (setD (stt T n A l).1 (stt T n A l).2) := by
  intro n
  induction n with
  | zero => intro A l h; omega
  | succ n ih =>
    intro A l h g
    rw [stt]
    have hp := pas_gh hT l A [] false false (by simpa using g)
    cases hca : (pas T l A [] false false).2.2 with
    | true =>
      rw [if_pos rfl]
      have hlen := pas_len (T := T) l A [] false false
      simp only [List.length_nil, Nat.zero_add, Bool.false_eq_true, false_or] at hlen
      have := hlen.2.mp hca
      exact ih _ _ (by omega) hp
    | false =>
      rw [if_neg (by simp)]
      obtain ⟨a, b, d⟩ := pas_end l A [] hca
      refine ⟨hp, fun c hc => ?_⟩
      have hc' : c ∈ l := by
        have : c ∈ (pas T l A [] false false).2.1 := hc
        rw [b] at this
        simpa using this
      have := d c hc'
      rw [← a] at this
      exact this
/-- what settling leaves alone -/
theorem pas_B {T : Tx} : ∀ (td : List Nat) (A : Fl) (dn : List Nat) (fr ca : Bool), flB (pas T td A dn fr ca).1 = flB A ∧ flT (pas T td A dn fr ca).1 = flT A := by
  intro td
  induction td with
  | nil => intro A dn fr ca; exact ⟨rfl, rfl⟩
  | cons c td ih =>
    intro A dn fr ca
    rw [pas]
    split
    · obtain ⟨a, b⟩ := ih (com T A c) dn (frb T A c) true
      obtain ⟨_, _, _, p4, p5, _⟩ := com_p (T := T) (A := A) (c := c)
      exact ⟨a.trans p4, b.trans p5⟩
    · exact ih _ _ _ _
theorem stt_B {T : Tx} : ∀ (n : Nat) (A : Fl) (l : List Nat), flB (stt T n A l).1 = flB A ∧ flT (stt T n A l).1 = flT A := by
  intro n
  induction n with
  | zero => intro A l; exact ⟨rfl, rfl⟩
  | succ n ih =>
    intro A l
    rw [stt]
    have h := pas_B (T := T) l A [] false false
    split
    · obtain ⟨a, b⟩ := ih (pas T l A [] false false).1 (pas T l A [] false false).2.1
      exact ⟨a.trans h.1, b.trans h.2⟩
    · exact h
