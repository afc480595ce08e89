/-! stock -/
def skn (T : Tx) (i : Nat) (A : Fl) (e : Nat) : Nat := min (flL A (10 * tiE T e + i)) (flS A i)
def sk1 (T : Tx) (i : Nat) (A : Fl) (e : Nat) : Fl := setS (ubn A (10 * tiE T e + i) (skn T i A e)) i (flS A i - skn T i A e)
def bsf (T : Tx) (i : Nat) (A : Fl) : Nat → Fl × Nat
  | 0 => (A, 0)
  | e + 1 => (sk1 T i (bsf T i A e).1 e, (bsf T i A e).2 + skn T i (bsf T i A e).1 e)
theorem gh_sk1 {T : Tx} {A : Fl} {i e : Nat} (hT : GT T) (g : GH T A) (hi : i < tiI T) (he : e < tiO T) : GH T (sk1 T i A e) := by
  have hI := hT.1
  have hO := hT.2.1
  have hE := hT.2.2.2.2.2.2.2.2.2.1 e he
  have h99 := g.1 i hi
  refine gh_S (gh_ubn g (by omega) _ ?_) (by omega)
  unfold skn
  omega
theorem gh_bsf {T : Tx} {A : Fl} {i : Nat} (hT : GT T) (g : GH T A) (hi : i < tiI T) : ∀ e, e ≤ tiO T → GH T (bsf T i A e).1 := by
  intro e
  induction e with
  | zero => intro _; exact g
  | succ e ih => intro he; exact gh_sk1 hT (ih (by omega)) hi (by omega)
theorem sk_D {T : Tx} {A : Fl} {i : Nat} : ∀ e, flD (bsf T i A e).1 = flD A ∧ flW (bsf T i A e).1 = flW A ∧ flO (bsf T i A e).1 = flO A := by
  intro e
  induction e with
  | zero => exact ⟨rfl, rfl, rfl⟩
  | succ e ih =>
    rw [bsf]
    unfold sk1
    rw [ubn_e]
    exact ih
theorem gf_bsf {T : Tx} {A : Fl} {i v : Nat} (hT : GT T) (g : GF T A) (hi : i < tiI T) (hv : v ≤ 99) : GF T (bsf T i (setS A i v) (tiO T)).1 := by
  refine ⟨gh_bsf hT (gh_S g.1 hv) hi _ (Nat.le_refl _), fun c hc => ?_⟩
  obtain ⟨s1, s2, s3⟩ := sk_D (T := T) (A := setS A i v) (i := i) (tiO T)
  rw [s1] at hc
  have := g.2 c hc
  unfold cn at this ⊢
  rw [s2, s3]
  exact this
theorem bk_c {ni f t i came e : Nat} {I : MI} {T : Tx} {A : Fl} (hT : GT T) (hd : t + 10 ≤ f ∨ f + 10 ≤ t) (hi : i < ni) (hit : i < tiI T) (c1 : CT I t T) (c2 : CF ni I f A) (g : GH T A) (he : e < tiO T) : Ok (b_X0_bringStock_25 f t (nI i) (nI came, nI e, I)) (fun q => ∃ I', q = .inl (nI (came + skn T i A e), nI (e + 1), I') ∧ CF ni I' f (sk1 T i A e) ∧ Fo f I I') := by
  have hI := hT.1
  have hO := hT.2.1
  have hE := hT.2.2.2.2.2.2.2.2.2.1 e he
  have h99 := g.1 i hit
  have hlen := (gh_len hT (gh_sk1 hT g hit he)).1
  have hcell : 10 * tiE T e + i < 160 := by omega
  have hrel := g.2.2.2.1 (10 * tiE T e + i) hcell
  have hL9 : flL A (10 * tiE T e + i) ≤ 9 := by
    have : rel T A (10 * tiE T e + i) ≤ tiN T (10 * tiE T e + i) := by unfold rel; split <;> omega
    have := (hT.2.2.2.2.2.2.2.1 (10 * tiE T e + i) hcell).1
    omega
  obtain ⟨b1, b2⟩ := CF.sp.mp c2
  have rL : rd 160 (I (f + 6)) (nI (10 * tiE T e + i)) = some (nI (flL A (10 * tiE T e + i))) := rd_v _ rfl hcell (by omega) (b1.2.2.2.2.2.1 _ hcell)
  have rS : rd 10 (I (f + 1)) (nI i) = some (nI (flS A i)) := rd_v _ rfl (by omega) (by omega) (b1.1 i hi)
  have hn : imin (nI (flL A (10 * tiE T e + i))) (nI (flS A i)) = nI (skn T i A e) := imin_n (by omega) (by omega)
  have hn1 : skn T i A e ≤ flL A (10 * tiE T e + i) := Nat.min_le_left _ _
  have hn2 : skn T i A e ≤ flS A i := Nat.min_le_right _ _
  refine ok_pos (by dsimp only; rw [c1.1.2.1]; exact nI_lt he (by omega)) (ok_bs (rd_v e rfl (by omega) (by omega) (c1.2.2.2.2.2.2 e he)) (ok_bs (show f_X4_cell (nI (tiE T e)) (nI i) = some (nI (10 * tiE T e + i)) from congrArg some (ci_c _ _)) ?_))
  refine ok_bs rL (ok_bs rS (ok_bs rL ?_))
  rw [hn, nI_sub hn1]
  refine ok_wr (10 * tiE T e + i) rfl hcell (by omega) ?_
  have w1 := b1.sL (k := 10 * tiE T e + i) (v := flL A (10 * tiE T e + i) - skn T i A e)
  refine ok_bs (rd_v (v := nI (flS A i)) i rfl (by omega) (by omega) (w1.1 i hi)) ?_
  rw [nI_sub hn2]
  refine ok_wr i rfl (by omega) (by omega) ?_
  have w2 := w1.sS (k := i) (v := flS A i - skn T i A e)
  have hB : (flB (sk1 T i A e)).length = (flB A).length + skn T i A e := by
    unfold sk1
    rw [ubn_e]
    exact putn_l
  have hTT : flT (sk1 T i A e) = flT A := by
    unfold sk1
    rw [ubn_e]
    rfl
  refine ok_bind (pb_l (c := 10 * tiE T e + i) (n := skn T i A e) w2 (by show flT A + (flB A).length + _ ≤ 864; omega)) (fun I' hI' => ok_some ?_)
  obtain ⟨p1, p2, p3, p4⟩ := hI'
  refine ⟨I', by rw [nI_add, nI_1], CF.sp.mpr ⟨?_, ?_⟩, ((Fo.ms (by omega)).tr (Fo.ms (by omega))).tr p4⟩
  · unfold sk1
    rw [ubn_e]
    exact p1
  · have hD : flD (sk1 T i A e) = flD A := by
      unfold sk1
      rw [ubn_e]
      rfl
    rw [hD]
    refine b2.fr ?_ ?_
    · rw [p2, mst_row _ _ _ (by omega), mst_row _ _ _ (by omega)]
    · rw [p3, mst_row _ _ _ (by omega), mst_row _ _ _ (by omega)]
theorem bs_c {ni f t i n : Nat} {I : MI} {T : Tx} {A : Fl} (hT : GT T) (hd : t + 10 ≤ f ∨ f + 10 ≤ t) (hi : i < ni) (hit : i < tiI T) (hn : n ≤ 99) (c1 : CT I t T) (c2 : CF ni I f A) (g : GH T A) : Ok (f_X0_bringStock f t (nI i) (nI n) I) (fun r => r.1 = nI (bsf T i (setS A i (min (flS A i + n) 99)) (tiO T)).2 ∧ CF ni r.2 f (bsf T i (setS A i (min (flS A i + n) 99)) (tiO T)).1 ∧ Fo f I r.2) := by
  have hI := hT.1
  have hO := hT.2.1
  have h99 := g.1 i hit
  obtain ⟨b1, b2⟩ := CF.sp.mp c2
  unfold f_X0_bringStock
  refine ok_bs (rd_v i rfl (by omega) (by omega) (b1.1 i hi)) ?_
  rw [nI_add, show imin (nI (flS A i + n)) 99 = nI (min (flS A i + n) 99) from imin_n (b := 99) (by omega) (by omega)]
  refine ok_wr i rfl (by omega) (by omega) ?_
  have w1 := b1.sS (k := i) (v := min (flS A i + n) 99)
  have g1 : GH T (setS A i (min (flS A i + n) 99)) := gh_S g (by omega)
  have w2 : CF ni (mst I (f + 1) i (nI (min (flS A i + n) 99))) f (setS A i (min (flS A i + n) 99)) := CF.sp.mpr ⟨w1, b2.fr (mst_row _ _ _ (by omega)) (mst_ne _ _ (Or.inl (by omega)))⟩
  have f0 : Fo f I (mst I (f + 1) i (nI (min (flS A i + n) 99))) := Fo.ms (by omega)
  generalize setS A i (min (flS A i + n) 99) = A0 at w2 g1 ⊢
  refine ok_bind (P := fun p : Int32 × Int32 × MI => p.1 = nI (bsf T i A0 (tiO T)).2 ∧ CF ni p.2.2 f (bsf T i A0 (tiO T)).1 ∧ Fo f I p.2.2) (ok_up (tiO T) (fun e s => ∃ I', s = (nI (bsf T i A0 e).2, nI e, I') ∧ CF ni I' f (bsf T i A0 e).1 ∧ Fo f I I') (fun e s he hs => ?_) (fun s hs => ?_) 0 _ (by omega) ⟨_, rfl, w2, f0⟩) (fun p hp => ok_some hp)
  · obtain ⟨I', rfl, q1, q2⟩ := hs
    refine (bk_c hT hd hi hit (c1.fr (fun k hk => q2 _ (by omega))) q1 (gh_bsf hT g1 hit e (by omega)) he).im (fun q hq => ?_)
    obtain ⟨I'', rfl, q3, q4⟩ := hq
    exact ⟨I'', rfl, q3, q2.tr q4⟩
  · obtain ⟨I', rfl, q1, q2⟩ := hs
    refine ok_neg ?_ (ok_some ⟨rfl, q1, q2⟩)
    dsimp only
    rw [q2 t (by omega), c1.1.2.1]
    exact nI_nlt (Nat.le_refl _) (by omega)
theorem bk_m {ni m i came o : Nat} {K : MI} {J : MJ} {T : Tx} {A : Fl} (hT : GT T) (hi0 : ni ≤ 10) (hi : i < ni) (hit : i < tiI T) (ho : o < tiO T) (c2 : MF ni (K (m + 13)) A) (g : GH T A) : Ok (lp (b_X5_stock_91 m (nI i) J (nI o)) (nI came, K)) (fun p => ∃ K', p = (nI (came + min (flL A (10 * o + i)) (flS A i)), K') ∧ MF ni (K' (m + 13)) (setS (ubn A (10 * o + i) (min (flL A (10 * o + i)) (flS A i))) i (flS A i - min (flL A (10 * o + i)) (flS A i))) ∧ ∀ a, a ≠ m + 13 → K' a = K a) := by
  have hI := hT.1
  have hO := hT.2.1
  have h99 := g.1 i hit
  have hcell : 10 * o + i < 160 := by omega
  have hrel := g.2.2.2.1 (10 * o + i) hcell
  have hL9 : flL A (10 * o + i) ≤ 9 := by
    have : rel T A (10 * o + i) ≤ tiN T (10 * o + i) := by unfold rel; split <;> omega
    have := (hT.2.2.2.2.2.2.2.1 (10 * o + i) hcell).1
    omega
  have hlen := gh_len hT g
  have hD8 := hlen.2.1
  obtain ⟨n, hn⟩ : ∃ n, n = min (flL A (10 * o + i)) (flS A i) := ⟨_, rfl⟩
  rw [← hn]
  have hn1 : n ≤ flL A (10 * o + i) := by omega
  have hn2 : n ≤ flS A i := by omega
  have hnB : ∀ k, k ≤ n → (flB A).length + k ≤ 864 := by
    intro k hk
    have g1 := gh_len hT (gh_ubn g hcell k (by omega))
    rw [ubn_e] at g1
    have := g1.1
    rw [putn_l] at this
    have e : flB (setL A (10 * o + i) (flL A (10 * o + i) - k)) = flB A := rfl
    rw [e] at this
    omega
  obtain ⟨b1, b2⟩ := MF.sp.mp c2
  refine ok_up n (fun k s => ∃ K', s = (nI (came + k), K') ∧ MG ni (K' (m + 13)) (setS (ubn A (10 * o + i) k) i (flS A i - k)) ∧ MS (K' (m + 13)) (flD A) ∧ ∀ a, a ≠ m + 13 → K' a = K a) (fun k s hk hs => ?_) (fun s hs => ?_) 0 _ (by omega) ⟨K, rfl, ?_, b2, fun _ _ => rfl⟩
  · obtain ⟨K', rfl, q1, q2, q3⟩ := hs
    have hS : K' (m + 13) i = nI (flS A i - k) := by
      have := q1.1 i hi
      rw [this]
      congr 1
      show pu _ i (flS A i - k) i = _
      exact pu_s
    have hLk : flL (setS (ubn A (10 * o + i) k) i (flS A i - k)) (10 * o + i) = flL A (10 * o + i) - k := by
      rw [ubn_e]
      show pu (flL A) (10 * o + i) (flL A (10 * o + i) - k) (10 * o + i) = _
      exact pu_s
    have hL : K' (m + 13) (170 + (10 * o + i)) = nI (flL A (10 * o + i) - k) := by
      rw [q1.2.2.2.2.2.1 _ hcell, hLk]
    have hBk : (flB (setS (ubn A (10 * o + i) k) i (flS A i - k))).length = (flB A).length + k := by
      rw [ubn_e]
      exact putn_l
    have hCk : (flC (setS (ubn A (10 * o + i) k) i (flS A i - k))).length ≤ 16 := by
      rw [ubn_e]
      exact hlen.2.2
    have hx : (170 + 10 * nI o) + nI i = nI (170 + (10 * o + i)) := (ci_k (K := 170) (k := 170) rfl o i).trans (by rw [Nat.add_assoc])
    have hb := hnB (k + 1) (by omega)
    have w1 := q1.sS (k := i) (v := flS A i - (k + 1)) hi hi0 (by omega) hCk
    have w2 := w1.sL (k := 10 * o + i) (v := flL A (10 * o + i) - (k + 1)) hcell hi0 (by show (flB (setS (ubn A (10 * o + i) k) i (flS A i - k))).length ≤ 864; omega) hCk
    refine ok_bs (rd_v i rfl (by omega) (by omega) hS) (ok_pos ((nI_p0 (by omega)).mpr (by omega)) (ok_bs (rd_v (170 + (10 * o + i)) hx (by omega) (by omega) hL) (ok_pos ((nI_p0 (by omega)).mpr (by omega)) (ok_bs (rd_v i rfl (by omega) (by omega) hS) ?_))))
    rw [show nI (flS A i - k) - 1 = nI (flS A i - (k + 1)) from (m1_p (by omega)).trans (by congr 1)]
    refine ok_wr i rfl (by omega) (by omega) (ok_bs (rd_v (v := nI (flL A (10 * o + i) - k)) (170 + (10 * o + i)) hx (by omega) (by omega) ?_) ?_)
    · rw [ms_r, pu_n (by omega)]; exact hL
    rw [show nI (flL A (10 * o + i) - k) - 1 = nI (flL A (10 * o + i) - (k + 1)) from (m1_p (by omega)).trans (by congr 1)]
    refine ok_wr (170 + (10 * o + i)) hx (by omega) (by omega) ?_
    have eK : mst (mst K' (m + 13) i (nI (flS A i - (k + 1)))) (m + 13) (170 + (10 * o + i)) (nI (flL A (10 * o + i) - (k + 1))) (m + 13) = pu (pu (K' (m + 13)) (0 + i) (nI (flS A i - (k + 1)))) (170 + (10 * o + i)) (nI (flL A (10 * o + i) - (k + 1))) := by rw [ms_r, ms_r, Nat.zero_add]
    rw [← eK] at w2
    refine ok_bind (tb_m (J := J) (o := o) (i := i) w2 hi0 (by show (flB (setS (ubn A (10 * o + i) k) i (flS A i - k))).length < 864; omega) hCk) (fun K'' hK'' => ok_some ?_)
    obtain ⟨t1, t2, t3⟩ := hK''
    refine ⟨K'', by rw [nI_1]; rfl, ?_, ?_, fun a ha => by rw [t3 a ha, mst_row _ _ _ ha, mst_row _ _ _ ha]; exact q3 a ha⟩
    · have e : setS (ubn A (10 * o + i) (k + 1)) i (flS A i - (k + 1)) = putn (setL (setS (setS (ubn A (10 * o + i) k) i (flS A i - k)) i (flS A i - (k + 1))) (10 * o + i) (flL A (10 * o + i) - (k + 1))) (10 * o + i) 1 := by
        rw [ubn]
        unfold ub
        have e2 : flL (ubn A (10 * o + i) k) (10 * o + i) - 1 = flL A (10 * o + i) - (k + 1) := by
          have : flL (ubn A (10 * o + i) k) (10 * o + i) = flL A (10 * o + i) - k := hLk
          omega
        rw [e2]
        generalize ubn A (10 * o + i) k = B
        exact (congrArg (fun q => ((q, flW B, flH B, flO B, flA B, pu (flL B) (10 * o + i) (flL A (10 * o + i) - (k + 1))), flT B, flB B ++ List.replicate 1 (10 * o + i), flD B, flC B)) (pu_pu (f := flS B) (k := i) (v := flS A i - k) (v' := flS A i - (k + 1)))).symm
      rw [e]
      exact t2
    · have hBl : (flB (setL (setS (setS (ubn A (10 * o + i) k) i (flS A i - k)) i (flS A i - (k + 1))) (10 * o + i) (flL A (10 * o + i) - (k + 1)))).length = (flB A).length + k := hBk
      rw [hBl] at t1
      refine q2.cg (fun j h1 h2 => ?_) hD8
      rw [t1, pu_n (by omega), pu_n (by omega), ms_r, ms_r, pu_n (by omega), pu_n (by omega)]
  · obtain ⟨K', rfl, q1, q2, q3⟩ := hs
    have hS : K' (m + 13) i = nI (flS A i - n) := by
      have := q1.1 i hi
      rw [this]
      congr 1
      show pu _ i (flS A i - n) i = _
      exact pu_s
    have hL : K' (m + 13) (170 + (10 * o + i)) = nI (flL A (10 * o + i) - n) := by
      rw [q1.2.2.2.2.2.1 _ hcell, ubn_e]
      congr 1
      show pu (flL A) (10 * o + i) (flL A (10 * o + i) - n) (10 * o + i) = _
      exact pu_s
    have hx : (170 + 10 * nI o) + nI i = nI (170 + (10 * o + i)) := (ci_k (K := 170) (k := 170) rfl o i).trans (by rw [Nat.add_assoc])
    have hD : flD (setS (ubn A (10 * o + i) n) i (flS A i - n)) = flD A := by rw [ubn_e]; rfl
    have fin : ∃ K'', ((nI (came + n), K') : Int32 × MI) = (nI (came + n), K'') ∧ MF ni (K'' (m + 13)) (setS (ubn A (10 * o + i) n) i (flS A i - n)) ∧ ∀ a, a ≠ m + 13 → K'' a = K a := ⟨K', rfl, MF.sp.mpr ⟨q1, by rw [hD]; exact q2⟩, q3⟩
    refine ok_bs (rd_v i rfl (by omega) (by omega) hS) ?_
    by_cases h0 : 0 < flS A i - n
    · refine ok_pos ((nI_p0 (by omega)).mpr h0) (ok_bs (rd_v (170 + (10 * o + i)) hx (by omega) (by omega) hL) (ok_neg (fun q => ?_) (ok_some fin)))
      have := (nI_p0 (by omega)).mp q
      omega
    · exact ok_neg (fun q => h0 ((nI_p0 (by omega)).mp q)) (ok_some fin)
  · have e : setS (ubn A (10 * o + i) 0) i (flS A i - 0) = A := by
      show ((pu (flS A) i (flS A i), flW A, flH A, flO A, flA A, flL A), flT A, flB A, flD A, flC A) = A
      rw [show pu (flS A) i (flS A i) = flS A from by funext j; unfold pu; split; rename_i q; rw [q]; rfl]
      rfl
    rw [e]
    exact b1
theorem all_b {n i : Nat} (h : i < n) : (2 ^ n - 1).testBit i = true := by
  rw [Nat.testBit_two_pow_sub_one]
  simpa using h
theorem tE_lt {T : Tx} (hT : GT T) {e : Nat} (he : e < tiO T) : tiE T e < tiO T := hT.2.2.2.2.2.2.2.2.2.1 e he
theorem all_16 {n : Nat} (h : n ≤ 16) : 2 ^ n - 1 < 65536 := by
  have : 2 ^ n ≤ 2 ^ 16 := Nat.pow_le_pow_right (by omega) h
  omega
theorem bs_m {ni m i n : Nat} {K : MI} {J : MJ} {T : Tx} {A : Fl} (hT : GT T) (hi0 : ni ≤ 10) (hi : i < ni) (hit : i < tiI T) (hn : n ≤ 99) (c1 : MT K m T) (c2 : MF ni (K (m + 13)) A) (g : GH T A) : Ok ((rd 2117 (K (m + 13)) (nI i)).bind fun v7 =>
      (if 99 < (v7 + nI n) then
        some 99
      else
        (rd 2117 (K (m + 13)) (nI i)).bind fun v10 =>
        some (v10 + nI n)).bind fun (p11 : Int32) =>
      (wr 2117 K (m + 13) (nI i) p11).bind fun I12 =>
      (rd 2 (I12 (m + 3)) 0).bind fun v13 =>
      (f_X5_earliestBehind m (((1 : Int32) <<< (v13 &&& 31)) - 1) ((-1)) J I12).bind fun r14 =>
      (lp (b_X5_stock_86 m (nI i) J v13) ((0, r14, I12))).bind fun p34 =>
      some ((p34.1, p34.2.2))) (fun r => r.1 = nI (bsf T i (setS A i (min (flS A i + n) 99)) (tiO T)).2 ∧ MF ni (r.2 (m + 13)) (bsf T i (setS A i (min (flS A i + n) 99)) (tiO T)).1 ∧ ∀ a, a ≠ m + 13 → r.2 a = K a) := by
  have hI := hT.1
  have hO := hT.2.1
  have h99 := g.1 i hit
  have hlen := gh_len hT g
  obtain ⟨b1, b2⟩ := MF.sp.mp c2
  have rS : rd 2117 (K (m + 13)) (nI i) = some (nI (flS A i)) := rd_v i rfl (by omega) (by omega) (b1.1 i hi)
  refine ok_bs rS (ok_bs (a := nI (min (flS A i + n) 99)) ?_ (ok_wr i rfl (by omega) (by omega) ?_))
  · rw [nI_add]
    by_cases h : 99 < flS A i + n
    · refine it_p (nI_lt (a := 99) h (by omega)) ?_
      rw [Nat.min_eq_right (by omega)]
      rfl
    · refine it_n (nI_nlt (a := 99) (by omega) (by omega)) (bnd_s rS ?_)
      rw [nI_add, Nat.min_eq_left (by omega)]
  have w1 := b1.sS (k := i) (v := min (flS A i + n) 99) hi hi0 (by omega) hlen.2.2
  have g1 : GH T (setS A i (min (flS A i + n) 99)) := gh_S g (by omega)
  have fr0 : ∀ a, a ≠ m + 13 → mst K (m + 13) i (nI (min (flS A i + n) 99)) a = K a := fun a ha => mst_row _ _ _ ha
  have w2 : MF ni (mst K (m + 13) i (nI (min (flS A i + n) 99)) (m + 13)) (setS A i (min (flS A i + n) 99)) := by
    rw [ms_r]
    rw [Nat.zero_add] at w1
    exact MF.sp.mpr ⟨w1, b2.cg (fun k h1 h2 => pu_n (by omega)) hlen.2.1⟩
  generalize mst K (m + 13) i (nI (min (flS A i + n) 99)) = K0 at w2 fr0 ⊢
  generalize setS A i (min (flS A i + n) 99) = A0 at w2 g1 ⊢
  have cT : MT K0 m T := c1.fr (fun r hr => fr0 _ (by omega))
  refine ok_bs (rd_v 0 rfl (by omega) (by omega) cT.1.2.1) ?_
  have hw : ((1 : Int32) <<< (nI (tiO T) &&& 31)) - 1 = nI (2 ^ tiO T - 1) := by
    rw [b_one (by omega), m1_p (by have := Nat.pow_pos (n := tiO T) (show 0 < 2 by omega); omega)]
  rw [hw]
  refine ok_bs (show f_X5_earliestBehind m (nI (2 ^ tiO T - 1)) (-1) J K0 = some (nI (ebh T (2 ^ tiO T - 1) 0) - 1) from by rw [← m1_z]; exact eb_m cT hT (all_16 hO) (by omega)) ?_
  rw [eb_0 hT]
  refine ok_bind (P := fun p : Int32 × Int32 × MI => p.1 = nI (bsf T i A0 (tiO T)).2 ∧ MF ni (p.2.2 (m + 13)) (bsf T i A0 (tiO T)).1 ∧ ∀ a, a ≠ m + 13 → p.2.2 a = K a) ?_ (fun p hp => ok_some hp)
  refine (ch_l (α := Nat × MI) (w := 2 ^ tiO T - 1) (b := b_X5_stock_86 m (nI i) J (nI (tiO T))) hT (fun a o => (nI a.1, o, a.2)) (fun e a => a.1 = (bsf T i A0 e).2 ∧ MF ni (a.2 (m + 13)) (bsf T i A0 e).1 ∧ ∀ b, b ≠ m + 13 → a.2 b = K b) (fun a => it_p (by show (-1 : Int32) < 0; decide) rfl) (fun e a he hb _ => ?_) (fun e a he _ hV => ?_) (tiO T) 0 (0, K0) (by omega) ⟨rfl, w2, fr0⟩).im (fun r hr => ?_)
  · rw [all_b (tE_lt hT he)] at hb
    cases hb
  · obtain ⟨v1, v2, v3⟩ := hV
    obtain ⟨c, K1⟩ := a
    dsimp only at v1 v2 v3
    refine ok_neg (nI_pos (by have := tE_lt hT he; omega)) (ok_bind (bk_m (J := J) (came := c) hT hi0 hi hit (tE_lt hT he) v2 (gh_bsf hT g1 hit e (by omega))) (fun p hp => ?_))
    obtain ⟨K2, rfl, p1, p2⟩ := hp
    dsimp only at p2
    have cT2 : MT K2 m T := c1.fr (fun r hr => by rw [p2 _ (by omega), v3 _ (by omega)])
    have hlt := tE_lt hT he
    have he1 := eb_m (J := J) (b := tiE T e + 1) cT2 hT (all_16 hO) (by omega)
    rw [nI_pred] at he1
    rw [hw]
    refine ok_bs he1 (ok_some ⟨(c + skn T i (bsf T i A0 e).1 e, K2), rfl, ?_, p1, fun b hb => (p2 b hb).trans (v3 b hb)⟩)
    rw [v1, bsf]
  · obtain ⟨a, rfl, v1, v2, v3⟩ := hr
    exact ⟨by rw [v1], v2, v3⟩
theorem case_12 {x L : Nat} {xs : Nat → Int32} (hL : L ≤ 3072) : CaseOk (Inv x) L (fun t u i z J I => f_Lc_12 x t u (x + 46) L xs i z J I) := by
  rintro t u z J I k ⟨D, hg, hz, hc, hm⟩ hk
  have r1 := sc_rd (xs := xs) (d := 1) (j := 1) rfl (by omega) hk hL
  have r2 := sc_rd (xs := xs) (d := 2) (j := 2) rfl (by omega) hk hL
  have fin : ∀ {z' : Sh} {I1 I2 : MI} {v : Int32}, f_X4_stock x t u (xs (6 * k + 1)) (xs (6 * k + 2)) z I = some (v, z', I1) → zs z ≤ zs z' → oX5 z' (x + 46) → f_X5_stock (x + 46) (xs (6 * k + 1)) (xs (6 * k + 2)) J I1 = some (v, I2) → f_Lc_12 x t u (x + 46) L xs (nI (6 * k)) z J I = some (z', J, I2) := by
    intro z' I1 I2 v e1 e2 e3 e4
    unfold f_Lc_12
    exact bnd_s r1 (bnd_s r2 (bnd_s e1 (bnd_s (gd_of e2) (bnd_s (gd_of e3) (bnd_s r1 (bnd_s r2 (bnd_s e4 (if_pos rfl))))))))
  have hI := hg.1.1
  have hK := hm.thr (v := 0)
  have hp := pk_ix (xs (6 * k + 1)) (n := tiI D.1) (by omega)
  rw [← or_assoc] at hp
  rcases hp with h | ⟨i, hi, hxo⟩
  · refine ⟨z, J, mst I (x + 46) 0 0, t, u, fin (I1 := I) (v := -1) ?_ (Nat.le_refl _) hz.2.1 ?_, Inv.ask hg hz hc hm⟩
    · unfold f_X4_stock
      exact bnd_s (ci_no hc.1.1.1 h) (it_p rfl rfl)
    · unfold f_X5_stock
      exact bnd_s rfl (bnd_s (mi_no hK.1.1.1 (by omega) h) (it_p rfl rfl))
  rw [hxo] at fin
  rcases w_1n (xs (6 * k + 2)) 99 (by omega) with ⟨hw, n, hn1, hn2, hxn⟩ | ⟨hw, hw2⟩
  · rw [hxn] at fin hw
    have n1 : ¬ nI n < 1 := nI_nlt (a := n) (b := 1) hn1 (by omega)
    have n2 : ¬ (99 : Int32) < nI n := nI_nlt (a := 99) (b := n) hn2 (by omega)
    obtain ⟨⟨z', I1⟩, e1, a1, a2, a3, a4⟩ := rem_a hg hz hc
    dsimp only at a1 a2 a3 a4
    have ht := hz.2.2.2.1
    obtain ⟨⟨v, I2⟩, e2, b1, b2, b3⟩ := bs_c (n := n) hg.1 (show t + 10 ≤ x + 24 ∨ x + 24 + 10 ≤ t by omega) hi hi hn2 a3.1 a3.2.1 hg.2.1.1
    dsimp only at b1 b2 b3
    have hcI2 := a3.fl a1 b3 b2
    have hCd : Cd x I I2 := fun a ha => (b3 a (by omega)).trans (a4 a (by omega) (by omega))
    have hm2 : MW (x + 46) (mst I2 (x + 46) 0 0) D := (hm.cd hCd).thr
    obtain ⟨K1, e3, k1, k2⟩ := kp_a (J := J) hg hc.2.2.2.2.2.1 hm2
    obtain ⟨⟨w, K2⟩, e4, d1, d2, d3⟩ := bs_m (J := J) (n := n) hg.1 hI hi hi hn2 k1.1 k1.2.1 hg.2.1.1
    dsimp only at d1 d2 d3
    rw [b1] at e2
    rw [d1] at e4
    refine ⟨z', J, K2, t, u, fin (I1 := I2) (v := nI (bsf D.1 i (setS D.2.1 i (min (flS D.2.1 i + n) 99)) (tiO D.1)).2) ?_ a2 a1.2.1 ?_, dA (dU D) (bsf D.1 i (setS D.2.1 i (min (flS D.2.1 i + n) 99)) (tiO D.1)).1, hg.u.a (gf_bsf hg.1 hg.2.1 hi (Nat.min_le_right _ _)), a1, hcI2.md a1 (fun a ha => ((d3 a (by omega)).trans (k2 a (by omega) (by omega))).trans (mst_row _ _ _ (by omega))), k1.fl d3 d2⟩
    · unfold f_X4_stock
      exact bnd_s (ci_yes hc.1.1.1 (by omega) hi) (it_n (by decide) (it_n n1 (it_n n2 (bnd_s e1 (bnd_s (gd_of a2) (bnd_s (gd_of a1.1) (bnd_s e2 rfl)))))))
    · unfold f_X5_stock
      exact bnd_s rfl (bnd_s (mi_yes hm2.1.1.1 (by omega) hi) (it_n (by decide) (bnd_s hw (it_n (by decide) (bnd_s e3 e4)))))
  · refine ⟨z, J, mst I (x + 46) 0 0, t, u, fin (I1 := I) (v := -1) ?_ (Nat.le_refl _) hz.2.1 ?_, Inv.ask hg hz hc hm⟩
    · unfold f_X4_stock
      refine bnd_s (ci_yes hc.1.1.1 (by omega) hi) (it_n (by decide) ?_)
      by_cases h1 : xs (6 * k + 2) < 1
      · exact it_p h1 rfl
      · exact it_n h1 (it_p (hw2.elim (fun q => absurd q h1) id) rfl)
    · unfold f_X5_stock
      exact bnd_s rfl (bnd_s (mi_yes hK.1.1.1 (by omega) hi) (it_n (by decide) (bnd_s hw (it_p rfl rfl))))
