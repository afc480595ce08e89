/-! release: the reference -/
theorem MF.eq {ni : Nat} {S : Nat → Int32} {X Y : Fl} (h : MF ni S X) (e : Ag ni X Y) (hD : flD X = flD Y) : MF ni S Y := by
  obtain ⟨h1, h2⟩ := MF.sp.mp h
  exact MF.sp.mpr ⟨h1.eq e, by rw [← hD]; exact h2⟩
theorem rl1_m {ni m i a o : Nat} {K : MI} {J : MJ} {T : Tx} {A : Fl} (hT : GT T) (hi0 : ni ≤ 10) (hi : i < 10) (ho : o < tiO T) (ha : a ≤ 1000) (c2 : MF ni (K (m + 13)) A) (g : GH T A) : Ok (lp (b_X5_release_154 m J (nI i) (nI o)) (nI a, K)) (fun p => ∃ K', p = (nI (a - min a (flL A (10 * o + i))), K') ∧ MF ni (K' (m + 13)) (ubn A (10 * o + i) (min a (flL A (10 * o + i)))) ∧ ∀ b, b ≠ m + 13 → K' b = K b) := by
  have hI := hT.1
  have hO := hT.2.1
  have hcell : 10 * o + i < 160 := by omega
  have hrel := g.2.2.2.1 (10 * o + i) hcell
  have hL9 : flL A (10 * o + i) ≤ 9 := by
    have : rel T A (10 * o + i) ≤ tiN T (10 * o + i) := by unfold rel; split <;> omega
    have := (hT.2.2.2.2.2.2.2.1 (10 * o + i) hcell).1
    omega
  have hlen := gh_len hT g
  have hD8 := hlen.2.1
  obtain ⟨n, hn⟩ : ∃ n, n = min a (flL A (10 * o + i)) := ⟨_, rfl⟩
  rw [← hn]
  have hn1 : n ≤ flL A (10 * o + i) := by omega
  have hn2 : n ≤ a := by omega
  have hnB : ∀ k, k ≤ n → (flB A).length + k ≤ 864 := by
    intro k hk
    have g1 := gh_len hT (gh_ubn g hcell k (by omega))
    rw [ubn_e] at g1
    have := g1.1
    rw [putn_l] at this
    have e : flB (setL A (10 * o + i) (flL A (10 * o + i) - k)) = flB A := rfl
    rw [e] at this
    omega
  obtain ⟨b1, b2⟩ := MF.sp.mp c2
  have hx : (170 + 10 * nI o) + nI i = nI (170 + (10 * o + i)) := (ci_k (K := 170) (k := 170) rfl o i).trans (by rw [Nat.add_assoc])
  refine ok_up n (fun k s => ∃ K', s = (nI (a - k), K') ∧ MG ni (K' (m + 13)) (ubn A (10 * o + i) k) ∧ MS (K' (m + 13)) (flD A) ∧ ∀ b, b ≠ m + 13 → K' b = K b) (fun k s hk hs => ?_) (fun s hs => ?_) 0 _ (by omega) ⟨K, rfl, b1, b2, fun _ _ => rfl⟩
  · obtain ⟨K', rfl, q1, q2, q3⟩ := hs
    obtain ⟨u1, u2, u3, u4⟩ := sm_ubn (A := A) (c := 10 * o + i) (n := k)
    have hLk : flL (ubn A (10 * o + i) k) (10 * o + i) = flL A (10 * o + i) - k := by rw [u4, pu_s]
    have hL : K' (m + 13) (170 + (10 * o + i)) = nI (flL A (10 * o + i) - k) := by
      rw [q1.2.2.2.2.2.1 _ hcell, hLk]
    have hBk : (flB (ubn A (10 * o + i) k)).length = (flB A).length + k := by
      rw [u3, List.length_append, List.length_replicate]
    have hCk : (flC (ubn A (10 * o + i) k)).length ≤ 16 := by
      rw [u1.2.2.2.2.2.2]
      exact hlen.2.2
    have hb := hnB (k + 1) (by omega)
    have w2 := q1.sL (k := 10 * o + i) (v := flL A (10 * o + i) - (k + 1)) hcell hi0 (by omega) hCk
    refine ok_pos ((nI_p0 (by omega)).mpr (by omega)) (ok_bs (rd_v (170 + (10 * o + i)) hx (by omega) (by omega) hL) (ok_pos ((nI_p0 (by omega)).mpr (by omega)) (ok_bs (rd_v (170 + (10 * o + i)) hx (by omega) (by omega) hL) ?_)))
    rw [show nI (flL A (10 * o + i) - k) - 1 = nI (flL A (10 * o + i) - (k + 1)) from (m1_p (by omega)).trans (by congr 1)]
    refine ok_wr (170 + (10 * o + i)) hx (by omega) (by omega) ?_
    have eK : mst K' (m + 13) (170 + (10 * o + i)) (nI (flL A (10 * o + i) - (k + 1))) (m + 13) = pu (K' (m + 13)) (170 + (10 * o + i)) (nI (flL A (10 * o + i) - (k + 1))) := ms_r
    rw [← eK] at w2
    refine ok_bind (tb_m (J := J) (o := o) (i := i) w2 hi0 (by show (flB (ubn A (10 * o + i) k)).length < 864; omega) hCk) (fun K'' hK'' => ok_some ?_)
    obtain ⟨t1, t2, t3⟩ := hK''
    refine ⟨K'', ?_, ?_, ?_, fun b hb' => by rw [t3 b hb', mst_row _ _ _ hb']; exact q3 b hb'⟩
    · dsimp only
      obtain ⟨r, hr⟩ : ∃ r, a - k = r + 1 := ⟨a - k - 1, by omega⟩
      rw [hr, pk_m1, show a - (k + 1) = r by omega]
    · have e : ubn A (10 * o + i) (k + 1) = putn (setL (ubn A (10 * o + i) k) (10 * o + i) (flL A (10 * o + i) - (k + 1))) (10 * o + i) 1 := by
        rw [ubn]
        unfold ub
        have e2 : flL (ubn A (10 * o + i) k) (10 * o + i) - 1 = flL A (10 * o + i) - (k + 1) := by omega
        rw [e2]
      rw [e]
      exact t2
    · have hBl : (flB (setL (ubn A (10 * o + i) k) (10 * o + i) (flL A (10 * o + i) - (k + 1)))).length = (flB A).length + k := hBk
      rw [hBl] at t1
      refine q2.cg (fun j h1 h2 => ?_) hD8
      rw [t1, pu_n (by omega), pu_n (by omega), ms_r, pu_n (by omega)]
  · obtain ⟨K', rfl, q1, q2, q3⟩ := hs
    obtain ⟨u1, u2, u3, u4⟩ := sm_ubn (A := A) (c := 10 * o + i) (n := n)
    have hL : K' (m + 13) (170 + (10 * o + i)) = nI (flL A (10 * o + i) - n) := by
      rw [q1.2.2.2.2.2.1 _ hcell, u4, pu_s]
    have fin : ∃ K'', ((nI (a - n), K') : Int32 × MI) = (nI (a - n), K'') ∧ MF ni (K'' (m + 13)) (ubn A (10 * o + i) n) ∧ ∀ b, b ≠ m + 13 → K'' b = K b := ⟨K', rfl, MF.sp.mpr ⟨q1, by rw [u1.2.2.2.2.2.1]; exact q2⟩, q3⟩
    by_cases h0 : 0 < a - n
    · refine ok_pos ((nI_p0 (by omega)).mpr h0) (ok_bs (rd_v (170 + (10 * o + i)) hx (by omega) (by omega) hL) (ok_neg (fun q => ?_) (ok_some fin)))
      have := (nI_p0 (by omega)).mp q
      omega
    · exact ok_neg (fun q => h0 ((nI_p0 (by omega)).mp q)) (ok_some fin)
theorem rl2_m {ni m i u w : Nat} {K : MI} {J : MJ} {T : Tx} {X : Fl} (hT : GT T) (hi0 : ni ≤ 10) (hi : i < 10) (hu : u ≤ 1000) (hw : w < 65536) (c1 : MT K m T) (c2 : MF ni (K (m + 13)) X) (g : GH T X) (hL : ∀ e, e < tiO T → w.testBit (tiE T e) = true → flL X (10 * tiE T e + i) = tiN T (10 * tiE T e + i)) : Ok ((f_X5_earliestBehind m (nI w) (-1) J K).bind fun r31 => (lp (b_X5_release_149 m J (nI w) (nI i)) ((nI u, r31, K))).bind fun p48 => some p48.2.2) (fun K' => MF ni (K' (m + 13)) (rfe T w i u X (tiO T)) ∧ ∀ b, b ≠ m + 13 → K' b = K b) := by
  have hO := hT.2.1
  have hgv : ∀ e, e < tiO T → gv T w i u e ≤ flL X (10 * tiE T e + i) := by
    intro e he
    cases hb : w.testBit (tiE T e)
    · rw [gv_w hb]; omega
    · rw [hL e he hb]; exact gv_le.2
  refine ok_bs (show f_X5_earliestBehind m (nI w) (-1) J K = some (nI (ebh T w 0) - 1) from by rw [← m1_z]; exact eb_m c1 hT hw (by omega)) ?_
  rw [eb_0 hT]
  refine ok_bind (P := fun p : Int32 × Int32 × MI => MF ni (p.2.2 (m + 13)) (rfe T w i u X (tiO T)) ∧ ∀ b, b ≠ m + 13 → p.2.2 b = K b) ?_ (fun p hp => ok_some hp)
  refine (ch_l (α := Nat × MI) (w := w) (b := b_X5_release_149 m J (nI w) (nI i)) hT (fun a o => (nI a.1, o, a.2)) (fun e a => a.1 = lf T w i u e ∧ MF ni (a.2 (m + 13)) (rfe T w i u X e) ∧ ∀ b, b ≠ m + 13 → a.2 b = K b) (fun a => it_p (by show (-1 : Int32) < 0; decide) rfl) (fun e a he hb hV => ?_) (fun e a he hb hV => ?_) (tiO T) 0 (u, K) (by omega) ⟨rfl, c2, fun _ _ => rfl⟩).im (fun r hr => ?_)
  · obtain ⟨v1, v2, v3⟩ := hV
    refine ⟨?_, ?_, v3⟩
    · rw [lf_s, gv_w hb]; exact v1
    · rw [rfe, gv_w hb]; exact v2
  · obtain ⟨v1, v2, v3⟩ := hV
    obtain ⟨c, K1⟩ := a
    dsimp only at v1 v2 v3
    have hlt := tE_lt hT he
    have hle := lf_le (T := T) (w := w) (i := i) (u := u) e
    obtain ⟨_, _, _, r4⟩ := rfe_s hT (w := w) (u := u) (A := X) hi e (by omega)
    have hLe : flL (rfe T w i u X e) (10 * tiE T e + i) = tiN T (10 * tiE T e + i) := by
      rw [r4 _ (by omega), show (10 * tiE T e + i) / 10 = tiE T e by omega, ix_e hT he, if_neg (by omega)]
      exact hL e he hb
    have hgve : min c (flL (rfe T w i u X e) (10 * tiE T e + i)) = gv T w i u e := by
      unfold gv
      rw [hb, hLe, v1]
      rfl
    refine ok_neg (nI_pos (by omega)) (ok_bind (rl1_m (J := J) (a := c) hT hi0 hi hlt (by omega) v2 (gh_rfe hT g hi hgv e (by omega))) (fun p hp => ?_))
    obtain ⟨K2, rfl, p1, p2⟩ := hp
    dsimp only at p2
    rw [hgve] at p1 ⊢
    have cT2 : MT K2 m T := c1.fr (fun r hr => by rw [p2 _ (by omega), v3 _ (by omega)])
    have he1 := eb_m (J := J) (w := w) (b := tiE T e + 1) cT2 hT hw (by omega)
    rw [nI_pred] at he1
    refine ok_bs he1 (ok_some ⟨(c - gv T w i u e, K2), rfl, ?_, p1, fun b hb' => (p2 b hb').trans (v3 b hb')⟩)
    dsimp only
    rw [v1, lf_s]
  · obtain ⟨a, rfl, v1, v2, v3⟩ := hr
    exact ⟨v2, v3⟩
theorem rl3_m {ni m w : Nat} {J : MJ} {T : Tx} {A0 : Fl} {l : List Nat} (hT : GT T) (hi0 : ni ≤ 10) (hni : tiI T ≤ ni) (hw : w < 65536) (hll : l.length ≤ 10) : ∀ (rest dn : List Nat) (K : MI) (X : Fl), l = dn ++ rest → rest.Nodup → (∀ i, i ∈ rest → i < tiI T) → MT K m T → MF ni (K (m + 13)) X → GH T X → K m 35 = nI l.length → lsr (K (m + 18)) 0 l → lsr (K (m + 19)) 0 (l.map (un T A0 w)) → (∀ i, i ∈ rest → flS X i = flS A0 i) → (∀ i e, i ∈ rest → e < tiO T → w.testBit (tiE T e) = true → flL X (10 * tiE T e + i) = tiN T (10 * tiE T e + i)) → Ok (lp (b_X5_release_107 m J (nI w)) (nI dn.length, K)) (fun p => MF ni (p.2 (m + 13)) (rfs T A0 w rest X) ∧ ∀ b, b ≠ m + 13 → p.2 b = K b) := by
  have hI := hT.1
  have hO := hT.2.1
  intro rest
  induction rest with
  | nil =>
    intro dn K X hl hn hr cT cM g m1 m2 m3 hS hL
    rw [List.append_nil] at hl
    subst hl
    exact Ok.mk (lp_done (it_n (by dsimp only; rw [m1]; exact nI_nlt (Nat.le_refl _) (by omega)) rfl)) ⟨cM, fun _ _ => rfl⟩
  | cons i rest ih =>
    intro dn K X hl hn hr cT cM g m1 m2 m3 hS hL
    obtain ⟨hj, hn'⟩ := List.nodup_cons.mp hn
    have hi := hr i (List.mem_cons_self ..)
    have hli : l[dn.length]? = some i := by rw [hl, List.getElem?_append_right (Nat.le_refl _), Nat.sub_self]; rfl
    have hlt := ls_lt hli
    have f1 := m2 _ _ hli
    have f2 := m3 dn.length (un T A0 w i) (by rw [List.getElem?_map, hli]; rfl)
    rw [Nat.zero_add] at f1 f2
    have hun := un_z (A := A0) (w := w) (i := i) hT (by omega)
    have hSi := hS i (List.mem_cons_self ..)
    have h99 := g.1 i hi
    have hle : un T A0 w i ≤ flS X i := by rw [hSi]; exact Nat.min_le_right _ _
    have hlen := gh_len hT g
    obtain ⟨b1, b2⟩ := MF.sp.mp cM
    have w1 := b1.sS (k := i) (v := flS X i - un T A0 w i) (by omega) hi0 (by omega) hlen.2.2
    obtain ⟨K1, hK1⟩ : ∃ K1, K1 = mst K (m + 13) i (nI (flS X i - un T A0 w i)) := ⟨_, rfl⟩
    have e1 : ∀ b, b ≠ m + 13 → K1 b = K b := fun b hb => by rw [hK1, mst_row _ _ _ hb]
    have w2 : MF ni (K1 (m + 13)) (setS X i (flS X i - un T A0 w i)) := by
      rw [hK1, ms_r]
      rw [Nat.zero_add] at w1
      exact MF.sp.mpr ⟨w1, b2.cg (fun k h1 h2 => pu_n (by omega)) hlen.2.1⟩
    have hL1 : ∀ e, e < tiO T → w.testBit (tiE T e) = true → flL (setS X i (flS X i - un T A0 w i)) (10 * tiE T e + i) = tiN T (10 * tiE T e + i) := fun e he hb => hL i e (List.mem_cons_self ..) he hb
    have g1 : GH T (setS X i (flS X i - un T A0 w i)) := gh_S g (by omega)
    obtain ⟨K2, h2, h3, h4⟩ := rl2_m (J := J) (u := un T A0 w i) hT hi0 (by omega) (by omega) hw (cT.fr (fun r hr => e1 _ (by omega))) w2 g1 hL1
    have e2 : ∀ b, b ≠ m + 13 → K2 b = K b := fun b hb => (h4 b hb).trans (e1 b hb)
    have g2 : GH T (rfi T A0 w i X) := gh_rfe hT g1 (by omega) (fun e he => by
      cases hb : w.testBit (tiE T e)
      · rw [gv_w hb]; omega
      · rw [hL1 e he hb]; exact gv_le.2) _ (Nat.le_refl _)
    obtain ⟨k1, k2, k3, k4⟩ := rfi_s hT (w := w) (A0 := A0) (X := X) (i := i) (by omega)
    have hst : b_X5_release_107 m J (nI w) (nI dn.length, K) = some (.inl (nI (dn ++ [i]).length, K2)) := by
      refine it_p (by dsimp only; rw [m1]; exact nI_lt hlt (by omega)) (bnd_s (rd_v _ rfl (by omega) (by omega) f1) (bnd_s (rd_v _ rfl (by omega) (by omega) f2) (bnd_s (rd_v i rfl (by omega) (by omega) (b1.1 i (by omega))) ?_)))
      rw [nI_sub hle]
      refine bnd_s (wr_k i rfl (by omega) (by omega)) ?_
      dsimp only
      rw [← hK1]
      cases hr31 : f_X5_earliestBehind m (nI w) (-1) J K1 with
      | none => rw [hr31] at h2; cases h2
      | some r31 =>
        rw [hr31] at h2
        refine bnd_s rfl ?_
        have h2' : (lp (b_X5_release_149 m J (nI w) (nI i)) (nI (un T A0 w i), r31, K1)).bind (fun p48 => some p48.2.2) = some K2 := h2
        cases hp48 : lp (b_X5_release_149 m J (nI w) (nI i)) (nI (un T A0 w i), r31, K1) with
        | none => rw [hp48] at h2'; cases h2'
        | some p48 =>
          rw [hp48] at h2'
          have h2'' := Option.some.inj h2'
          refine bnd_s rfl ?_
          rw [h2'', nI_1, List.length_append, List.length_singleton]
    refine ok_next hst ((ih (dn ++ [i]) K2 (rfi T A0 w i X) (by rw [hl, List.append_assoc]; rfl) hn' (fun j hj => hr j (List.mem_cons_of_mem _ hj)) (cT.fr (fun r hr => e2 _ (by omega))) h3 g2 (by rw [e2 m (by omega)]; exact m1) (by rw [e2 _ (by omega)]; exact m2) (by rw [e2 _ (by omega)]; exact m3) (fun j hj' => ?_) (fun j e hj' he hb => ?_)).im (fun p hp => ⟨hp.1, fun b hb => (hp.2 b hb).trans (e2 b hb)⟩))
    · have : j ≠ i := fun q => hj (q ▸ hj')
      rw [k2, pu_n this]
      exact hS j (List.mem_cons_of_mem _ hj')
    · have hne : j ≠ i := fun q => hj (q ▸ hj')
      have hj10 := hr j (List.mem_cons_of_mem _ hj')
      have hE := tE_lt hT he
      rw [k4 _ (by omega), if_neg (by omega)]
      exact hL j e (List.mem_cons_of_mem _ hj') he hb
/-- orders of the wave let go -/
theorem rl0_m {ni m w : Nat} {K : MI} {T : Tx} {A : Fl} (hT : GT T) (hi0 : ni ≤ 10) (hw : Wok T A w) (c1 : MT K m T) (c2 : MF ni (K (m + 13)) A) (g : GH T A) : Ok (lp (b_X5_release_27 m (nI w)) (0, K)) (fun p => MF ni (p.2 (m + 13)) (A1 T A w) ∧ ∀ b, b ≠ m + 13 → p.2 b = K b) := by
  have hO := hT.2.1
  have hlen := gh_len hT g
  have hB := hlen.1
  obtain ⟨b1, b2⟩ := MF.sp.mp c2
  have ag0 : Ag ni A (mkR A (flS A) (fun q => if q < 0 ∧ w.testBit q = true then 1 else flW A q) (fun c => if c / 10 < 0 ∧ w.testBit (c / 10) = true then tiN T c else flL A c) (flB A)) := by
    refine ⟨fun _ _ => rfl, fun q _ => ?_, fun _ _ => rfl, fun _ _ => rfl, fun _ _ => rfl, fun c _ => ?_, rfl, rfl, rfl⟩
    · show flW A q = if q < 0 ∧ w.testBit q = true then 1 else flW A q
      rw [if_neg (by omega)]
    · show flL A c = if c / 10 < 0 ∧ w.testBit (c / 10) = true then tiN T c else flL A c
      rw [if_neg (by omega)]
  refine ok_up (tiO T) (fun o s => ∃ K', s = (nI o, K') ∧ MG ni (K' (m + 13)) (mkR A (flS A) (fun q => if q < o ∧ w.testBit q = true then 1 else flW A q) (fun c => if c / 10 < o ∧ w.testBit (c / 10) = true then tiN T c else flL A c) (flB A)) ∧ MS (K' (m + 13)) (flD A) ∧ ∀ b, b ≠ m + 13 → K' b = K b) (fun o s ho hs => ?_) (fun s hs => ?_) 0 _ (by omega) ⟨K, rfl, b1.eq ag0, b2, fun _ _ => rfl⟩
  · obtain ⟨K', rfl, q1, q2, q3⟩ := hs
    have cT' : MT K' m T := c1.fr (fun r hr => q3 _ (by omega))
    refine ok_bs (rd_v 0 rfl (by omega) (by omega) cT'.1.2.1) (ok_pos (nI_lt ho (by omega)) ?_)
    dsimp only
    rw [b_is (by have := hw.1; omega) (by omega)]
    cases hb : w.testBit o
    · refine ok_bs (it_p rfl rfl) (ok_some ⟨K', by rw [nI_1], q1.eq ⟨fun _ _ => rfl, fun q _ => ?_, fun _ _ => rfl, fun _ _ => rfl, fun _ _ => rfl, fun c _ => ?_, rfl, rfl, rfl⟩, q2, q3⟩)
      · show (if q < o ∧ w.testBit q = true then 1 else flW A q) = if q < o + 1 ∧ w.testBit q = true then 1 else flW A q
        by_cases e : q = o
        · rw [e, hb]; simp
        · have : q < o + 1 ↔ q < o := by omega
          simp [this]
      · show (if c / 10 < o ∧ w.testBit (c / 10) = true then tiN T c else flL A c) = if c / 10 < o + 1 ∧ w.testBit (c / 10) = true then tiN T c else flL A c
        by_cases e : c / 10 = o
        · rw [e, hb]; simp
        · have : c / 10 < o + 1 ↔ c / 10 < o := by omega
          simp [this]
    · refine ok_bind (P := fun K'' : MI => MG ni (K'' (m + 13)) (mkR A (flS A) (fun q => if q < o + 1 ∧ w.testBit q = true then 1 else flW A q) (fun c => if c / 10 < o + 1 ∧ w.testBit (c / 10) = true then tiN T c else flL A c) (flB A)) ∧ MS (K'' (m + 13)) (flD A) ∧ ∀ b, b ≠ m + 13 → K'' b = K b) (ok_neg (by decide) (ok_wr (330 + o) (ci_a rfl o) (by omega) (by omega) (ok_bind (P := fun s : Int32 × MI => MG ni (s.2 (m + 13)) (mkR A (flS A) (fun q => if q < o + 1 ∧ w.testBit q = true then 1 else flW A q) (fun c => if c / 10 < o + 1 ∧ w.testBit (c / 10) = true then tiN T c else flL A c) (flB A)) ∧ MS (s.2 (m + 13)) (flD A) ∧ ∀ b, b ≠ m + 13 → s.2 b = K b) (ok_up 10 (fun j s => ∃ K'', s = (nI j, K'') ∧ MG ni (K'' (m + 13)) (mkR A (flS A) (fun q => if q < o + 1 ∧ w.testBit q = true then 1 else flW A q) (fun c => if (c / 10 < o ∨ c / 10 = o ∧ c % 10 < j) ∧ w.testBit (c / 10) = true then tiN T c else flL A c) (flB A)) ∧ MS (K'' (m + 13)) (flD A) ∧ ∀ b, b ≠ m + 13 → K'' b = K b) (fun j s hj hs => ?_) (fun s hs => ?_) 0 _ (by omega) ⟨_, rfl, ?_, ?_, fun b hb' => by rw [mst_row _ _ _ hb']; exact q3 b hb'⟩) (fun s hs => ok_some hs)))) (fun K'' hK'' => ok_some ⟨K'', by rw [nI_1], hK''⟩)
      · obtain ⟨K'', rfl, r1, r2, r3⟩ := hs
        have cT'' : MT K'' m T := c1.fr (fun r hr => r3 _ (by omega))
        have hx : (170 + 10 * nI o) + nI j = nI (170 + (10 * o + j)) := (ci_k (K := 170) (k := 170) rfl o j).trans (by rw [Nat.add_assoc])
        refine ok_pos (nI_lt (b := 10) hj (by omega)) (ok_bs (rd_v (10 * o + j) (ci_m o j) (by omega) (by omega) (cT''.2.2.2 _ (by omega))) (ok_wr (170 + (10 * o + j)) hx (by omega) (by omega) (ok_some ⟨_, by rw [nI_1], ?_, ?_, fun b hb' => by rw [mst_row _ _ _ hb']; exact r3 b hb'⟩)))
        · try dsimp only
          rw [ms_r]
          refine (r1.sL (k := 10 * o + j) (v := tiN T (10 * o + j)) (by omega) hi0 (by show (flB A).length ≤ 864; omega) hlen.2.2).eq ⟨fun _ _ => rfl, fun _ _ => rfl, fun _ _ => rfl, fun _ _ => rfl, fun _ _ => rfl, fun c hc => ?_, rfl, rfl, rfl⟩
          show pu (fun c => if (c / 10 < o ∨ c / 10 = o ∧ c % 10 < j) ∧ w.testBit (c / 10) = true then tiN T c else flL A c) (10 * o + j) (tiN T (10 * o + j)) c = if (c / 10 < o ∨ c / 10 = o ∧ c % 10 < j + 1) ∧ w.testBit (c / 10) = true then tiN T c else flL A c
          by_cases e : c = 10 * o + j
          · rw [e, pu_s, if_pos ⟨Or.inr ⟨by omega, by omega⟩, by rw [show (10 * o + j) / 10 = o by omega]; exact hb⟩]
          · rw [pu_n e]
            have : (c / 10 < o ∨ c / 10 = o ∧ c % 10 < j + 1) ↔ (c / 10 < o ∨ c / 10 = o ∧ c % 10 < j) := by omega
            simp only [this]
        · try dsimp only
          rw [ms_r]
          exact r2.cg (fun k h1 h2 => pu_n (by omega)) hlen.2.1
      · obtain ⟨K'', rfl, r1, r2, r3⟩ := hs
        refine ok_neg (nI_nlt (a := 10) (b := 10) (by omega) (by omega)) (ok_some ⟨r1.eq ⟨fun _ _ => rfl, fun _ _ => rfl, fun _ _ => rfl, fun _ _ => rfl, fun _ _ => rfl, fun c hc => ?_, rfl, rfl, rfl⟩, r2, r3⟩)
        show (if (c / 10 < o ∨ c / 10 = o ∧ c % 10 < 10) ∧ w.testBit (c / 10) = true then tiN T c else flL A c) = if c / 10 < o + 1 ∧ w.testBit (c / 10) = true then tiN T c else flL A c
        have : (c / 10 < o ∨ c / 10 = o ∧ c % 10 < 10) ↔ c / 10 < o + 1 := by omega
        simp only [this]
      · rw [ms_r]
        refine (q1.sW (k := o) (v := 1) (by omega) hi0 (by show (flB A).length ≤ 864; omega) hlen.2.2).eq ⟨fun _ _ => rfl, fun q hq => ?_, fun _ _ => rfl, fun _ _ => rfl, fun _ _ => rfl, fun c hc => ?_, rfl, rfl, rfl⟩
        · show pu (fun q => if q < o ∧ w.testBit q = true then 1 else flW A q) o 1 q = if q < o + 1 ∧ w.testBit q = true then 1 else flW A q
          by_cases e : q = o
          · rw [e, pu_s, if_pos ⟨by omega, hb⟩]
          · rw [pu_n e]
            have : q < o + 1 ↔ q < o := by omega
            simp only [this]
        · show (if c / 10 < o ∧ w.testBit (c / 10) = true then tiN T c else flL A c) = if (c / 10 < o ∨ c / 10 = o ∧ c % 10 < 0) ∧ w.testBit (c / 10) = true then tiN T c else flL A c
          have : (c / 10 < o ∨ c / 10 = o ∧ c % 10 < 0) ↔ c / 10 < o := by omega
          simp only [this]
      · rw [ms_r]
        exact q2.cg (fun k h1 h2 => pu_n (by omega)) hlen.2.1
  · obtain ⟨K', rfl, q1, q2, q3⟩ := hs
    have cT' : MT K' m T := c1.fr (fun r hr => q3 _ (by omega))
    refine ok_bs (rd_v 0 rfl (by omega) (by omega) cT'.1.2.1) (ok_neg (nI_nlt (Nat.le_refl _) (by omega)) (ok_some ⟨MF.sp.mpr ⟨q1.eq ⟨fun _ _ => rfl, fun q _ => ?_, fun _ _ => rfl, fun _ _ => rfl, fun _ _ => rfl, fun c _ => ?_, rfl, rfl, rfl⟩, q2⟩, q3⟩))
    · show (if q < tiO T ∧ w.testBit q = true then 1 else flW A q) = if w.testBit q = true then 1 else flW A q
      cases hb : w.testBit q
      · simp
      · simp [(hw.2 q hb).1]
    · show (if c / 10 < tiO T ∧ w.testBit (c / 10) = true then tiN T c else flL A c) = if w.testBit (c / 10) = true then tiN T c else flL A c
      cases hb : w.testBit (c / 10)
      · simp
      · simp [(hw.2 _ hb).1]
