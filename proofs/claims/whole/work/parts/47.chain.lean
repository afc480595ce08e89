/-! orders one behind the other by earliness; units from late to the belt -/
def ebh (T : Tx) (w b : Nat) : Nat := sel (fun o => w.testBit o && (decide (b = 0) || erb T (b - 1) o)) (erb T) (tiO T)
theorem eb_m {K : MI} {m : Nat} {J : MJ} {T : Tx} (hT : MT K m T) (hg : GT T) {w b : Nat} (hw : w < 65536) (hb : b ≤ tiO T) : f_X5_earliestBehind m (nI w) (nI b - 1) J K = some (nI (ebh T w b) - 1) := by
  have hO := hg.2.1
  unfold f_X5_earliestBehind ebh
  refine bnd_s (lp_fs (fun k => (nI (sel (fun o => w.testBit o && (decide (b = 0) || erb T (b - 1) o)) (erb T) k) - 1, nI k)) (tiO T) (r := (nI (sel (fun o => w.testBit o && (decide (b = 0) || erb T (b - 1) o)) (erb T) (tiO T)) - 1, nI (tiO T))) (fun k hk => ?_) ?_) rfl
  · refine bnd_s (rd_v 0 rfl (by omega) (by omega) hT.1.2.1) (it_p (nI_lt hk (by omega)) ?_)
    have hl := sel_le (P := fun o => w.testBit o && (decide (b = 0) || erb T (b - 1) o)) (R := erb T) k
    refine bnd_s (a := nI (sel (fun o => w.testBit o && (decide (b = 0) || erb T (b - 1) o)) (erb T) (k + 1)) - 1) ?_ (by dsimp only; rw [nI_1])
    rw [b_is (by omega) (by omega), sel]
    dsimp only
    generalize sel (fun o => w.testBit o && (decide (b = 0) || erb T (b - 1) o)) (erb T) k = r at hl ⊢
    cases hbk : w.testBit k
    · exact it_p rfl rfl
    refine it_n (by decide) ?_
    have rest : ∀ {p : Bool}, p = true → (if nI r - 1 < 0 then some (nI k) else (f_X5_isEarlier m (nI k) (nI r - 1) J K).bind fun r10 => if r10 = 0 then some (nI r - 1) else some (nI k)) = some (nI (if (true && p && (decide (r = 0) || erb T k (r - 1))) = true then k + 1 else r) - 1) := by
      intro p hp
      rw [hp]
      by_cases h0 : r = 0
      · refine it_p ((m1_l (by omega)).mpr h0) ?_
        rw [if_pos (by simp [h0]), nI_pred]
      · refine it_n (fun q => h0 ((m1_l (by omega)).mp q)) ?_
        rw [m1_p h0]
        refine bnd_s (er_m hT hg hk (by omega)) ?_
        cases he : erb T k (r - 1)
        · refine it_p (by simp) ?_
          rw [if_neg (by simp [h0]), m1_p h0]
        · refine it_n (by simp) ?_
          rw [if_pos (by simp), nI_pred]
    by_cases b0 : b = 0
    · refine it_p ((m1_l (by omega)).mpr b0) ?_
      exact rest (by simp [b0])
    · refine it_n (fun q => b0 ((m1_l (by omega)).mp q)) ?_
      rw [m1_p b0]
      refine bnd_s (er_m hT hg (by omega) hk) ?_
      cases he : erb T (b - 1) k
      · refine it_p (by simp) ?_
        rw [if_neg (by simp [b0])]
      · refine it_n (by simp) ?_
        exact rest (by simp)
  · exact bnd_s (rd_v 0 rfl (by omega) (by omega) hT.1.2.1) (it_n (nI_nlt (Nat.le_refl _) (by omega)) rfl)
theorem ebh_le {T : Tx} {w b : Nat} : ebh T w b ≤ tiO T := sel_le _
def nE (p : Nat → Bool) : Nat → Nat → Nat
  | 0, e => e
  | k + 1, e => if p e then e else nE p k (e + 1)
theorem nE_s {p : Nat → Bool} : ∀ k e, e ≤ nE p k e ∧ nE p k e ≤ e + k ∧ (nE p k e < e + k → p (nE p k e) = true) ∧ ∀ i, e ≤ i → i < nE p k e → p i = false := by
  intro k
  induction k with
  | zero => intro e; exact ⟨Nat.le_refl _, Nat.le_refl _, fun h => absurd h (Nat.lt_irrefl _), fun i h1 h2 => by rw [nE] at h2; omega⟩
  | succ k ih =>
    intro e
    rw [nE]
    by_cases h : p e = true
    · rw [if_pos h]
      exact ⟨Nat.le_refl _, by omega, fun _ => h, fun i h1 h2 => by omega⟩
    · rw [if_neg h]
      obtain ⟨h1, h2, h3, h4⟩ := ih (e + 1)
      refine ⟨by omega, by omega, fun q => h3 (by omega), fun i q1 q2 => ?_⟩
      by_cases q : i = e
      · rw [q]; simpa using h
      · exact h4 i (by omega) q2
def vE (T : Tx) (j : Nat) : Nat := if j < tiO T then tiE T j + 1 else 0
theorem eb_g {T : Tx} (hg : GT T) {w b e0 : Nat} (h0 : e0 ≤ tiO T) (hP : ∀ i, i < tiO T → (decide (b = 0) || erb T (b - 1) (tiE T i)) = decide (e0 ≤ i)) : ebh T w b = vE T (nE (fun i => w.testBit (tiE T i)) (tiO T - e0) e0) := by
  refine (sel_bst (erb_s T) (tiO T)).uq (erb_s T) ?_
  obtain ⟨n1, n2, n3, n4⟩ := nE_s (p := fun i => w.testBit (tiE T i)) (tiO T - e0) e0
  generalize nE (fun i => w.testBit (tiE T i)) (tiO T - e0) e0 = j at n1 n2 n3 n4 ⊢
  unfold vE
  by_cases hj : j < tiO T
  · rw [if_pos hj]
    have hE := hg.2.2.2.2.2.2.2.2.2.1 j hj
    refine Or.inr ⟨by omega, ⟨by omega, ?_⟩, fun q hq hne => ?_⟩
    · have h3 := n3 (by omega)
      try dsimp only at h3
      rw [Nat.add_sub_cancel]
      try dsimp only
      rw [h3, hP j hj]
      simp [n1]
    · rw [Nat.add_sub_cancel] at hne ⊢
      obtain ⟨hq1, hq2⟩ := hq
      obtain ⟨i, hi, rfl⟩ := hg.2.2.2.2.2.2.2.2.2.2.2 q hq1
      try dsimp only at hq2
      rw [hP i hi, Bool.and_eq_true, decide_eq_true_eq] at hq2
      have hji : j < i := by
        rcases Nat.lt_trichotomy i j with w1 | w1 | w1
        · have := n4 i hq2.2 w1
          try dsimp only at this
          rw [hq2.1] at this
          cases this
        · exact absurd (by rw [w1]) hne
        · exact w1
      rw [erb_i]
      exact hg.2.2.2.2.2.2.2.2.2.2.1 j i hji hi
  · rw [if_neg hj]
    refine Or.inl ⟨rfl, fun o ho => ?_⟩
    obtain ⟨hq1, hq2⟩ := ho
    obtain ⟨i, hi, rfl⟩ := hg.2.2.2.2.2.2.2.2.2.2.2 o hq1
    try dsimp only at hq2
    rw [hP i hi, Bool.and_eq_true, decide_eq_true_eq] at hq2
    have := n4 i hq2.2 (by omega)
    try dsimp only at this
    rw [hq2.1] at this
    cases this
theorem eb_0 {T : Tx} (hg : GT T) {w : Nat} : ebh T w 0 = vE T (nE (fun i => w.testBit (tiE T i)) (tiO T) 0) := eb_g (e0 := 0) hg (by omega) (fun i hi => by simp)
theorem eb_n {T : Tx} (hg : GT T) {w e : Nat} (he : e < tiO T) : ebh T w (tiE T e + 1) = vE T (nE (fun i => w.testBit (tiE T i)) (tiO T - (e + 1)) (e + 1)) := by
  refine eb_g hg (by omega) (fun i hi => ?_)
  have H := hg.2.2.2.2.2.2.2.2.2.2.1
  rw [Nat.add_sub_cancel]
  rcases Nat.lt_trichotomy e i with w1 | w1 | w1
  · rw [erb_i.mpr (H e i w1 hi)]
    simp
    omega
  · have : erb T (tiE T e) (tiE T i) = false := by
      cases h : erb T (tiE T e) (tiE T i)
      · rfl
      · rw [erb_i, w1] at h
        unfold erl at h
        omega
    rw [this]
    have : ¬ e + 1 ≤ i := by omega
    simp [this]
  · rw [(erb_s T).2.2 _ _ (erb_i.mpr (H i e w1 he))]
    have : ¬ e + 1 ≤ i := by omega
    simp [this]
theorem ch_l {α σ : Type} {T : Tx} (hg : GT T) {w : Nat} {b : σ → Option (σ ⊕ σ)} (st : α → Int32 → σ) (V : Nat → α → Prop) (he : ∀ a, b (st a (-1)) = some (.inr (st a (-1)))) (hn : ∀ e a, e < tiO T → w.testBit (tiE T e) = false → V e a → V (e + 1) a) (hs : ∀ e a, e < tiO T → w.testBit (tiE T e) = true → V e a → Ok (b (st a (nI (tiE T e)))) (fun q => ∃ a', q = .inl (st a' (nI (ebh T w (tiE T e + 1)) - 1)) ∧ V (e + 1) a')) : ∀ k e a, e + k = tiO T → V e a → Ok (lp b (st a (nI (vE T (nE (fun i => w.testBit (tiE T i)) k e)) - 1))) (fun r => ∃ a', r = st a' (-1) ∧ V (tiO T) a') := by
  intro k
  induction k with
  | zero =>
    intro e a h1 h2
    rw [nE]
    unfold vE
    rw [if_neg (by omega), m1_z]
    obtain rfl : e = tiO T := by omega
    exact Ok.mk (lp_done (he a)) ⟨a, rfl, h2⟩
  | succ k ih =>
    intro e a h1 h2
    rw [nE]
    cases hb : w.testBit (tiE T e)
    · rw [if_neg (by simp)]
      exact ih (e + 1) a (by omega) (hn e a (by omega) hb h2)
    · rw [if_pos rfl]
      unfold vE
      rw [if_pos (by omega), nI_pred]
      obtain ⟨q, hq, a', rfl, hV⟩ := hs e a (by omega) hb h2
      refine ok_next hq ?_
      rw [eb_n hg (by omega), show tiO T - (e + 1) = k by omega]
      exact ih (e + 1) a' (by omega) hV
theorem pu_pu {α : Type} {f : Nat → α} {k : Nat} {v v' : α} : pu (pu f k v) k v' = pu f k v' := by
  funext j
  unfold pu
  split <;> rfl
theorem pu_cm {α : Type} {f : Nat → α} {k k' : Nat} {v v' : α} (h : k ≠ k') : pu (pu f k v) k' v' = pu (pu f k' v') k v := by
  funext j
  unfold pu
  by_cases h1 : j = k
  · have : j ≠ k' := by omega
    simp [h1, h]
  · simp [h1]
def putn (A : Fl) (c n : Nat) : Fl := setT A (flT A) (flB A ++ List.replicate n c)
theorem putn_0 {A : Fl} {c : Nat} : putn A c 0 = A := by
  unfold putn
  rw [List.replicate_zero, List.append_nil]
  rfl
theorem putn_s {A : Fl} {c n : Nat} : putn A c (n + 1) = putn (putn A c n) c 1 := by
  show setT A (flT A) (flB A ++ List.replicate (n + 1) c) = setT A (flT A) ((flB A ++ List.replicate n c) ++ List.replicate 1 c)
  rw [List.append_assoc, List.replicate_append_replicate]
theorem putn_l {A : Fl} {c n : Nat} : (flB (putn A c n)).length = (flB A).length + n := by
  show (flB A ++ List.replicate n c).length = _
  rw [List.length_append, List.length_replicate]
theorem CG.sB {ni : Nat} {I : MI} {f c : Nat} {A : Fl} (h : CG ni I f A) : CG ni (mst (mst I (f + 8) (flT A + (flB A).length) (nI c)) f 10 (nI (flT A + (flB A).length + 1))) f (putn A c 1) := by
  obtain ⟨h1, h2, h3, h4, h5, h6, ⟨h7, h8, h9⟩, h10, h11⟩ := h
  have er : ∀ r, 1 ≤ r → r ≠ 8 → mst (mst I (f + 8) (flT A + (flB A).length) (nI c)) f 10 (nI (flT A + (flB A).length + 1)) (f + r) = I (f + r) := fun r h1 h2 => by rw [mst_row _ _ _ (by omega), mst_row _ _ _ (by omega)]
  refine ⟨by rw [er 1 (by omega) (by omega)]; exact h1, by rw [er 2 (by omega) (by omega)]; exact h2, by rw [er 3 (by omega) (by omega)]; exact h3, by rw [er 4 (by omega) (by omega)]; exact h4, by rw [er 5 (by omega) (by omega)]; exact h5, by rw [er 6 (by omega) (by omega)]; exact h6, ⟨?_, ?_, fun k d hk => ?_⟩, ?_, by rw [er 7 (by omega) (by omega)]; exact h11⟩
  · rw [mst_ne _ _ (Or.inr (by omega)), mst_ne _ _ (Or.inl (by omega))]; exact h7
  · rw [mst_self, putn_l]; rfl
  · rw [mst_row _ _ _ (by omega), ms_r]
    show pu _ _ _ (flT A + k) = _
    rcases ls_app hk with q | ⟨q1, q2⟩
    · have := ls_lt q
      rw [pu_n (by omega)]
      exact h9 k d q
    · rw [q1, q2, pu_s]
  · rw [mst_ne _ _ (Or.inr (by omega)), mst_ne _ _ (Or.inl (by omega))]; exact h10
theorem MG.sB {ni : Nat} {S : Nat → Int32} {c : Nat} {A : Fl} (h : MG ni S A) (hi0 : ni ≤ 10) (hB : (flB A).length < 864) (hC : (flC A).length ≤ 16) : MG ni (pu (pu S (371 + (flB A).length) (nI c)) 370 (nI ((flB A).length + 1))) (putn A c 1) := by
  obtain ⟨h1, h2, h3, h4, h5, h6, ⟨h7, h8⟩, h10, h11⟩ := h
  have er : ∀ r, r < 370 ∨ 1235 ≤ r → pu (pu S (371 + (flB A).length) (nI c)) 370 (nI ((flB A).length + 1)) r = S r := fun r h1 => by rw [pu_n (by omega), pu_n (by omega)]
  refine ⟨fun i hi => by rw [er _ (by omega)]; exact h1 i hi, fun i hi => by rw [er _ (by omega)]; exact h2 i hi, fun i hi => by rw [er _ (by omega)]; exact h3 i hi, fun i hi => by rw [er _ (by omega)]; exact h4 i hi, fun i hi => by rw [er _ (by omega)]; exact h5 i hi, fun i hi => by rw [er _ (by omega)]; exact h6 i hi, ⟨by rw [pu_s, putn_l], fun k d hk => ?_⟩, by rw [er _ (by omega)]; exact h10, fun k d hk => by rw [er _ (by omega)]; exact h11 k d hk⟩
  rw [pu_n (by omega)]
  rcases ls_app hk with q | ⟨q1, q2⟩
  · have := ls_lt q
    rw [pu_n (by omega)]
    exact h8 k d q
  · rw [q1, q2, pu_s]
theorem pb_l {ni f : Nat} {I : MI} {A : Fl} {c n : Nat} (h : CG ni I f A) (hr : flT A + (flB A).length + n ≤ 864) : Ok (f_X0_putOnBelt f (nI c) (nI n) I) (fun I' => CG ni I' f (putn A c n) ∧ I' (f + 9) = I (f + 9) ∧ I' f 12 = I f 12 ∧ Fo f I I') := by
  unfold f_X0_putOnBelt
  refine ok_bind (P := fun p : Int32 × MI => CG ni p.2 f (putn A c n) ∧ p.2 (f + 9) = I (f + 9) ∧ p.2 f 12 = I f 12 ∧ Fo f I p.2) (ok_up n (fun k s => ∃ I', s = (nI k, I') ∧ CG ni I' f (putn A c k) ∧ I' (f + 9) = I (f + 9) ∧ I' f 12 = I f 12 ∧ Fo f I I') (fun k s hk hs => ?_) (fun s hs => ?_) 0 _ (by omega) ⟨I, rfl, by rw [putn_0]; exact h, rfl, rfl, Fo.rf⟩) (fun p hp => ok_some hp)
  · obtain ⟨I', rfl, c1, c2, c3, c4⟩ := hs
    have e10 := c1.2.2.2.2.2.2.1.2.1
    have hl := putn_l (A := A) (c := c) (n := k)
    have hT : flT (putn A c k) = flT A := rfl
    refine ok_pos (nI_lt hk (by omega)) ?_
    refine ok_pos (by dsimp only; rw [e10]; exact nI_lt (b := 864) (by omega) (by omega)) (ok_wr (flT (putn A c k) + (flB (putn A c k)).length) e10 (by omega) (by omega) (ok_wf (ok_some ⟨_, by rw [nI_1], ?_, ?_, ?_, ?_⟩)))
    · dsimp only
      rw [mst_ne _ _ (Or.inl (by omega)), e10, nI_1, putn_s]
      exact c1.sB
    · rw [mst_row _ _ _ (by omega), mst_row _ _ _ (by omega)]; exact c2
    · rw [mst_ne _ _ (Or.inr (by omega)), mst_ne _ _ (Or.inl (by omega))]; exact c3
    · exact c4.tr ((Fo.ms (by omega)).tr Fo.m0)
  · obtain ⟨I', rfl, hI'⟩ := hs
    exact ok_neg (nI_nlt (Nat.le_refl _) (by omega)) (ok_some hI')
theorem tb_m {ni m o i : Nat} {K : MI} {J : MJ} {A : Fl} (h : MG ni (K (m + 13)) A) (hi0 : ni ≤ 10) (hB : (flB A).length < 864) (hC : (flC A).length ≤ 16) : Ok (f_X5_toBelt m (nI o) (nI i) J K) (fun K' => K' (m + 13) = pu (pu (K (m + 13)) (371 + (flB A).length) (nI (10 * o + i))) 370 (nI ((flB A).length + 1)) ∧ MG ni (K' (m + 13)) (putn A (10 * o + i) 1) ∧ ∀ a, a ≠ m + 13 → K' a = K a) := by
  have e := h.2.2.2.2.2.2.1.1
  unfold f_X5_toBelt
  refine ok_bs (rd_v 370 rfl (by omega) (by omega) e) (ok_wr (371 + (flB A).length) (ci_a rfl _) (by omega) (by omega) (ok_bs (rd_v (v := nI (flB A).length) 370 rfl (by omega) (by omega) ?_) (ok_wr 370 rfl (by omega) (by omega) (ok_some ⟨?_, ?_, fun a ha => ?_⟩))))
  · rw [ms_r, pu_n (by omega)]; exact e
  · rw [ci_m, ms_r, ms_r, nI_1]
  · rw [ci_m, ms_r, ms_r, nI_1]
    exact h.sB hi0 hB hC
  · rw [mst_row _ _ _ ha, mst_row _ _ _ ha]
/-- a unit from late to the belt -/
def ub (A : Fl) (c : Nat) : Fl := putn (setL A c (flL A c - 1)) c 1
def ubn (A : Fl) (c : Nat) : Nat → Fl
  | 0 => A
  | n + 1 => ub (ubn A c n) c
theorem ubn_e {A : Fl} {c : Nat} : ∀ n, ubn A c n = putn (setL A c (flL A c - n)) c n := by
  intro n
  induction n with
  | zero =>
    rw [putn_0]
    show A = ((flS A, flW A, flH A, flO A, flA A, pu (flL A) c (flL A c - 0)), flT A, flB A, flD A, flC A)
    rw [show pu (flL A) c (flL A c - 0) = flL A from by funext j; unfold pu; split; rename_i q; rw [q]; rfl; rfl]
    rfl
  | succ n ih =>
    rw [ubn, ih, putn_s]
    show putn ((flS A, flW A, flH A, flO A, flA A, pu (pu (flL A) c (flL A c - n)) c (pu (flL A) c (flL A c - n) c - 1)), flT A, flB A ++ List.replicate n c, flD A, flC A) c 1 = _
    rw [pu_s, pu_pu]
    rfl
theorem gh_ub {T : Tx} {A : Fl} {c : Nat} (g : GH T A) (hc : c < 160) (hL : 0 < flL A c) : GH T (ub A c) := by
  obtain ⟨g1, g2, g3, g4, g5, g6, g7, g8, g9, g10⟩ := g
  refine ⟨g1, g2, g3, fun d hd => ?_, fun d hd => ?_, g6, g7, ?_, g9, g10⟩
  · have e := g4 d hd
    show flA A d + pu (flL A) c (flL A c - 1) d + (flB A ++ List.replicate 1 c).count d + (flD A).count d = rel T A d
    rw [List.count_append, show List.replicate 1 c = [c] from rfl, List.count_singleton]
    by_cases q : d = c
    · rw [q, pu_s]
      rw [q] at e
      simp
      omega
    · rw [pu_n q]
      have : ¬ c = d := fun w => q w.symm
      simp [this]
      omega
  · have hd' : d ∈ flB A ++ List.replicate 1 c := hd
    rw [List.mem_append] at hd'
    rcases hd' with q | q
    · exact g5 d q
    · rw [List.eq_of_mem_replicate q]; exact hc
  · show flT A + (flB A ++ List.replicate 1 c).length + sm (pu (flL A) c (flL A c - 1)) 0 160 = sm (rel T A) 0 160
    rw [List.length_append, List.length_replicate]
    have := sm_pu (g := flL A) (a := 0) (n := 160) (c := c) (v := flL A c - 1) (by omega) (by omega)
    omega
theorem gh_ubn {T : Tx} {A : Fl} {c : Nat} (g : GH T A) (hc : c < 160) : ∀ n, n ≤ flL A c → GH T (ubn A c n) := by
  intro n
  induction n with
  | zero => intro _; exact g
  | succ n ih =>
    intro h
    refine gh_ub (ih (by omega)) hc ?_
    rw [ubn_e]
    show 0 < pu (flL A) c (flL A c - n) c
    rw [pu_s]
    omega
theorem gh_S {T : Tx} {A : Fl} {i v : Nat} (g : GH T A) (hv : v ≤ 99) : GH T (setS A i v) := by
  obtain ⟨g1, g2⟩ := g
  refine ⟨fun j hj => ?_, g2⟩
  show pu (flS A) i v j ≤ 99
  unfold pu
  split
  · exact hv
  · exact g1 j hj
theorem imin_n {a b : Nat} (ha : a < 2 ^ 31) (hb : b < 2 ^ 31) : imin (nI a) (nI b) = nI (min a b) := by
  unfold imin
  by_cases h : b < a
  · rw [if_pos (nI_lt h ha), Nat.min_eq_right (by omega)]
  · rw [if_neg (nI_nlt (by omega) hb), Nat.min_eq_left (by omega)]
theorem imax_n {a b : Nat} (ha : a < 2 ^ 31) (hb : b < 2 ^ 31) : imax (nI a) (nI b) = nI (max a b) := by
  unfold imax
  by_cases h : a < b
  · rw [if_pos (nI_lt h hb), Nat.max_eq_right (by omega)]
  · rw [if_neg (nI_nlt (by omega) ha), Nat.max_eq_left (by omega)]
