/-! holes needed: the reference, by items; needs -/
section Nd2
variable {T : Tx} {A : Fl} {w : Nat} {m : Nat} {J : MJ}
/-- what an order got while an item's units come -/
def gE (T : Tx) (A : Fl) (w c i e q : Nat) : Nat := gtt T A w (if q < tiO T ∧ ixE T q < e then c ||| 2 ^ i else c) q
theorem ni_m {K : MI} {i c M : Nat} (hT : GT T) (hw : w < 65536) (cT : MT K m T) (hi : i < 10) (hc : c.testBit i = false) (hM : M ≤ 16) (hM2 : ct (hob T A w c) (tiO T) ≤ M) (hG : ∀ q, q < 16 → K (m + 20) q = nI (gtt T A w c q)) : Ok ((f_X5_earliestBehind m (nI w) (-1) J K).bind fun r17 => lp (b_X5_needsBy_71 m (nI w) J (nI i)) (nI (bs (hob T A w c) (tiO T)), nI M, nI (un T A w i), r17, K)) (fun r => r.1 = nI (bs (hob T A w (c ||| 2 ^ i)) (tiO T)) ∧ r.2.1 = nI (max M (mxE T A w c i (tiO T))) ∧ (∀ q, q < 16 → r.2.2.2.2 (m + 20) q = nI (gtt T A w (c ||| 2 ^ i) q)) ∧ ∀ b, b ≠ m + 20 → r.2.2.2.2 b = K b) := by
  have hO := hT.2.1
  have hun := un_z (A := A) (w := w) (i := i) hT hi
  refine ok_bs (show f_X5_earliestBehind m (nI w) (-1) J K = some (nI (ebh T w 0) - 1) from by rw [← m1_z]; exact eb_m cT hT hw (by omega)) ?_
  rw [eb_0 hT]
  have hgE : ∀ e q, e < tiO T → q < 16 → q ≠ tiE T e → gE T A w c i (e + 1) q = gE T A w c i e q := by
    intro e q he hq hne
    unfold gE
    by_cases hqO : q < tiO T
    · have : ixE T q ≠ e := fun r => hne (by rw [← r]; exact (ix_o hT hqO).2.symm)
      by_cases h : ixE T q < e
      · rw [if_pos (show q < tiO T ∧ ixE T q < e + 1 from ⟨hqO, by omega⟩), if_pos ⟨hqO, h⟩]
      · rw [if_neg (by omega), if_neg (by omega)]
    · rw [if_neg (by omega), if_neg (by omega)]
  have hg1 : ∀ e, e < tiO T → gE T A w c i e (tiE T e) = gtt T A w c (tiE T e) ∧ gE T A w c i (e + 1) (tiE T e) = gtt T A w c (tiE T e) + gv T w i (un T A w i) e := by
    intro e he
    have hE' := tE_lt hT he
    unfold gE
    rw [ix_e hT he, if_neg (by omega), if_pos ⟨hE', by omega⟩, gtt_add hi hc, shc_e hT he hi]
    exact ⟨rfl, rfl⟩
  have hgt : ∀ e, e < tiO T → (gts T A w (tiE T e)).testBit i = decide (0 < gv T w i (un T A w i) e) := by
    intro e he
    rw [gts_t hi, shc_e hT he hi]
  have skip : ∀ e (a : Nat × Nat × Nat × MI), e < tiO T → gv T w i (un T A w i) e = 0 → (a.1 = bs (hE T A w c i e) (tiO T) ∧ a.2.1 = max M (mxE T A w c i e) ∧ a.2.2.1 = lf T w i (un T A w i) e ∧ (∀ q, q < 16 → a.2.2.2 (m + 20) q = nI (gE T A w c i e q)) ∧ ∀ b, b ≠ m + 20 → a.2.2.2 b = K b) → (a.1 = bs (hE T A w c i (e + 1)) (tiO T) ∧ a.2.1 = max M (mxE T A w c i (e + 1)) ∧ a.2.2.1 = lf T w i (un T A w i) (e + 1) ∧ (∀ q, q < 16 → a.2.2.2 (m + 20) q = nI (gE T A w c i (e + 1) q)) ∧ ∀ b, b ≠ m + 20 → a.2.2.2 b = K b) := by
    rintro e a he hz ⟨v1, v2, v3, v4, v5⟩
    have hb : (gts T A w (tiE T e)).testBit i = false := by rw [hgt e he, hz]; rfl
    refine ⟨?_, ?_, ?_, fun q hq => ?_, v5⟩
    · rw [v1]
      exact bs_cg (fun q hq => (c3_e hT he hb q hq).symm)
    · rw [v2, mxE, if_neg (by rw [hb]; simp)]
    · rw [v3, lf_s, hz]
      rfl
    · rw [v4 q hq]
      by_cases e1 : q = tiE T e
      · rw [e1, (hg1 e he).1, (hg1 e he).2, hz]
        rfl
      · rw [hgE e q he hq e1]
  refine (ch_l (α := Nat × Nat × Nat × MI) (w := w) (b := b_X5_needsBy_71 m (nI w) J (nI i)) hT (fun a o => (nI a.1, nI a.2.1, nI a.2.2.1, o, a.2.2.2)) (fun e a => a.1 = bs (hE T A w c i e) (tiO T) ∧ a.2.1 = max M (mxE T A w c i e) ∧ a.2.2.1 = lf T w i (un T A w i) e ∧ (∀ q, q < 16 → a.2.2.2 (m + 20) q = nI (gE T A w c i e q)) ∧ ∀ b, b ≠ m + 20 → a.2.2.2 b = K b) (fun a => it_p (by show (-1 : Int32) < 0; decide) rfl) (fun e a he hb hV => skip e a he (gv_w hb) hV) (fun e a he hb hV => ?_) (tiO T) 0 (bs (hob T A w c) (tiO T), M, un T A w i, K) (by omega) ⟨?_, ?_, rfl, fun q hq => ?_, fun _ _ => rfl⟩).im (fun r hr => ?_)
  · obtain ⟨H, Mo, le, K1⟩ := a
    have hV' := hV
    obtain ⟨v1, v2, v3, v4, v5⟩ := hV
    dsimp only at v1 v2 v3 v4 v5
    have hE' := tE_lt hT he
    have hle := lf_le (T := T) (w := w) (i := i) (u := un T A w i) e
    have hmx := mxE_le (A := A) (w := w) (c := c) (i := i) hT e
    have cT1 : MT K1 m T := cT.fr (fun r hr => v5 _ (by omega))
    have hgv : min le (tiN T (10 * tiE T e + i)) = gv T w i (un T A w i) e := by
      unfold gv
      rw [hb, v3]
      rfl
    have hsum : gtt T A w c (tiE T e) + gv T w i (un T A w i) e ≤ tot T (tiE T e) := by
      rw [← (hg1 e he).2]
      have := gtt_le (A := A) (w := w) (c := if tiE T e < tiO T ∧ ixE T (tiE T e) < e + 1 then c ||| 2 ^ i else c) (o := tiE T e) hT
      unfold gE
      omega
    have h1 := nu_m (J := J) (K := K1) (i := i) (o := tiE T e) (a := le) (M := Mo) (G := gtt T A w c (tiE T e)) (p := hE T A w c i e) hT cT1 hi hE' (by omega) (by omega) (by rw [v4 _ (by omega), (hg1 e he).1]) (by rw [hgv]; exact hsum) rfl
    rw [hgv] at h1
    show Ok (b_X5_needsBy_71 m (nI w) J (nI i) (nI H, nI Mo, nI le, nI (tiE T e), K1)) _
    rw [v1]
    refine ok_neg (nI_pos (by omega)) (ok_bind h1 (fun r hr => ?_))
    obtain ⟨K2, r1, r2, r3, r4, r5, r6⟩ := hr
    have cT2 : MT r.2.2.2.2 m T := by rw [r4]; exact cT1.fr (fun k hk => r6 _ (by omega))
    have he1 := eb_m (J := J) (w := w) (b := tiE T e + 1) cT2 hT hw (by omega)
    rw [nI_pred] at he1
    refine ok_bs he1 (ok_some ?_)
    rw [r1, r2, r3, r4]
    by_cases hz : gv T w i (un T A w i) e = 0
    · rw [hz] at r5
      have hK : ∀ q, q < 16 → K2 (m + 20) q = K1 (m + 20) q := by
        intro q hq
        rw [r5]
        by_cases e1 : q = tiE T e
        · rw [e1, pu_s, v4 _ (by omega), (hg1 e he).1]
          rfl
        · rw [pu_n e1]
      refine ⟨(H, Mo, le, K2), ?_, skip e (H, Mo, le, K2) he hz ⟨v1, v2, v3, fun q hq => by dsimp only; rw [hK q hq]; exact v4 q hq, fun b hb' => by dsimp only; rw [r6 b hb']; exact v5 b hb'⟩⟩
      rw [hz]
      have : bs (fun q => if q = tiE T e then (if 0 = 0 then hE T A w c i e (tiE T e) else decide (gtt T A w c (tiE T e) + 0 ≠ tot T (tiE T e))) else hE T A w c i e q) (tiO T) = bs (hE T A w c i e) (tiO T) := bs_cg (fun q _ => by by_cases e1 : q = tiE T e <;> simp [e1])
      rw [this, v1]
      rfl
    · have hbt : (gts T A w (tiE T e)).testBit i = true := by rw [hgt e he, decide_eq_true (by omega)]
      rw [if_neg hz, if_neg hz]
      refine ⟨(bs (hE T A w c i (e + 1)) (tiO T), max Mo (ct (fun q => hE T A w c i e q || decide (q = tiE T e)) (tiO T)), le - gv T w i (un T A w i) e, K2), ?_, rfl, ?_, ?_, fun q hq => ?_, fun b hb' => ?_⟩
      · dsimp only
        congr 2
        refine congrArg nI (bs_cg (fun q hq => ?_))
        by_cases e1 : q = tiE T e
        · rw [if_pos e1, e1, (hE_e hT he).2, hob_yes hbt]
          have hw' := gtt_w (A := A) (w := w) (c := c ||| 2 ^ i) (o := tiE T e) hT
          rw [gtt_add hi hc, shc_e hT he hi] at hw'
          cases hh : whb T A w (c ||| 2 ^ i) (tiE T e)
          · rw [hh] at hw'
            simp at hw'
            simp [hw']
          · rw [hh] at hw'
            simp at hw'
            simp [hw']
        · rw [if_neg e1, hE_o hT he hq e1]
      · dsimp only
        rw [mxE, if_pos hbt, v2, Nat.max_assoc]
      · dsimp only
        rw [v3, lf_s]
      · dsimp only
        rw [r5]
        by_cases e1 : q = tiE T e
        · rw [e1, pu_s, (hg1 e he).2]
        · rw [pu_n e1, v4 q hq, hgE e q he hq e1]
      · dsimp only
        rw [r6 b hb']
        exact v5 b hb'
  · exact bs_cg (fun q _ => hE_0.symm)
  · dsimp only
    rw [mxE]
    omega
  · dsimp only
    rw [hG q hq]
    unfold gE
    rw [if_neg (by omega)]
  · obtain ⟨a, rfl, v1, v2, v3, v4, v5⟩ := hr
    refine ⟨?_, ?_, fun q hq => ?_, v5⟩
    · dsimp only
      rw [v1]
      exact congrArg nI (bs_cg (fun q hq => hE_a hT hq))
    · dsimp only
      rw [v2]
    · dsimp only
      rw [v4 q hq]
      unfold gE
      by_cases hqO : q < tiO T
      · rw [if_pos ⟨hqO, (ix_o hT hqO).1⟩]
      · rw [if_neg (by omega), gtt_add hi hc]
        unfold shc
        rw [if_neg (by omega)]
        rfl
theorem nb_l {l rl : List Nat} (hT : GT T) (hw : w < 65536) (hl10 : ∀ i, i ∈ l → i < 10) (hll : l.length ≤ 10) (hrl : rl.length = l.length) (hr : ∀ k, k ∈ rl → k < l.length) : ∀ (rest dn : List Nat) (K : MI) (c M : Nat), rl = dn ++ rest → MT K m T → MPk K m T A w l → lsr (K (m + 21)) 0 rl → (rest.map (fun k => l.getD k 0)).Nodup → (∀ k, k ∈ rest → c.testBit (l.getD k 0) = false) → M ≤ 16 → ct (hob T A w c) (tiO T) ≤ M → (∀ q, q < 16 → K (m + 20) q = nI (gtt T A w c q)) → Ok (lp (b_X5_needsBy_32 m (nI w) (m + 21) 10 J) (nI (bs (hob T A w c) (tiO T)), nI M, nI dn.length, K)) (fun r => r.2.1 = nI (nds T A w (rest.map (fun k => l.getD k 0)) c M) ∧ ∀ b, b ≠ m + 20 → r.2.2.2 b = K b) := by
  have hO := hT.2.1
  intro rest
  induction rest with
  | nil =>
    intro dn K c M hl cT cP cR hn hc hM hM2 hG
    have hd := congrArg List.length hl
    rw [List.append_nil] at hd
    exact Ok.mk (lp_done (it_n (by dsimp only; rw [cP.1]; exact nI_nlt (by omega) (by omega)) rfl)) ⟨rfl, fun _ _ => rfl⟩
  | cons k rest ih =>
    intro dn K c M hl cT cP cR hn hc hM hM2 hG
    rw [List.map_cons] at hn ⊢
    obtain ⟨hn1, hn2⟩ := List.nodup_cons.mp hn
    have hli : rl[dn.length]? = some k := by rw [hl, List.getElem?_append_right (Nat.le_refl _), Nat.sub_self]; rfl
    have hlt := ls_lt hli
    have hk := hr k (List.mem_of_getElem? hli)
    obtain ⟨i, hki⟩ := ls_get hk
    have hgd : l.getD k 0 = i := by rw [List.getD_eq_getElem?_getD, hki]; rfl
    have hi := hl10 i (List.mem_of_getElem? hki)
    rw [hgd] at hn1 ⊢
    have hci : c.testBit i = false := by rw [← hgd]; exact hc k (List.mem_cons_self ..)
    have f0 := cR _ _ hli
    have f1 := cP.2.1 _ _ hki
    have f2 := cP.2.2 k (un T A w i) (by rw [List.getElem?_map, hki]; rfl)
    rw [Nat.zero_add] at f0 f1 f2
    obtain ⟨r, hr1, r1, r2, r3, r4⟩ := ni_m (A := A) (J := J) (M := M) hT hw cT hi hci hM hM2 hG
    have hmx := mxE_le (A := A) (w := w) (c := c) (i := i) hT (tiO T)
    have hst : b_X5_needsBy_32 m (nI w) (m + 21) 10 J (nI (bs (hob T A w c) (tiO T)), nI M, nI dn.length, K) = some (.inl (nI (bs (hob T A w (c ||| 2 ^ i)) (tiO T)), nI (max M (mxE T A w c i (tiO T))), nI (dn ++ [k]).length, r.2.2.2.2)) := by
      refine it_p (by dsimp only; rw [cP.1]; exact nI_lt (by omega) (by omega)) (bnd_s (rd_v _ rfl (by omega) (by omega) f0) (bnd_s (rd_v _ rfl (by omega) (by omega) f1) (bnd_s (rd_v _ rfl (by omega) (by omega) f0) (bnd_s (rd_v _ rfl (by omega) (by omega) f2) ?_))))
      dsimp only
      cases h17 : f_X5_earliestBehind m (nI w) (-1) J K with
      | none => rw [h17] at hr1; cases hr1
      | some r17 =>
        rw [h17] at hr1
        refine bnd_s rfl ?_
        have hr1' : lp (b_X5_needsBy_71 m (nI w) J (nI i)) (nI (bs (hob T A w c) (tiO T)), nI M, nI (un T A w i), r17, K) = some r := hr1
        refine bnd_s hr1' ?_
        rw [r1, r2, nI_1, List.length_append, List.length_singleton]
    refine ok_next hst ((ih (dn ++ [k]) r.2.2.2.2 (c ||| 2 ^ i) (max M (mxE T A w c i (tiO T))) (by rw [hl, List.append_assoc]; rfl) (cT.fr (fun q hq => r4 _ (by omega))) ?_ (by rw [r4 _ (by omega)]; exact cR) hn2 (fun j hj => ?_) (by omega) ?_ r3).im (fun s hs => ⟨hs.1, fun b hb => (hs.2 b hb).trans (r4 b hb)⟩))
    · unfold MPk
      rw [r4 _ (by omega), r4 _ (by omega), r4 _ (by omega)]
      exact cP
    · have hne : l.getD j 0 ≠ i := fun q => hn1 (by rw [← q]; exact List.mem_map_of_mem hj)
      rw [Nat.testBit_or, Nat.testBit_two_pow, hc j (List.mem_cons_of_mem _ hj)]
      rw [decide_eq_false (fun q => hne q.symm)]
      rfl
    · have := ct_mx (A := A) (w := w) (c := c) (i := i) hT (tiO T) (Nat.le_refl _)
      have h2 : ct (hE T A w c i (tiO T)) (tiO T) = ct (hob T A w (c ||| 2 ^ i)) (tiO T) := ct_cg (fun q hq => hE_a hT hq)
      rw [h2] at this
      omega
theorem nb_m {l rl : List Nat} {K : MI} (hT : GT T) (hw : w < 65536) (hl10 : ∀ i, i ∈ l → i < 10) (hll : l.length ≤ 10) (hrl : rl.length = l.length) (hr : ∀ k, k ∈ rl → k < l.length) (cT : MT K m T) (cP : MPk K m T A w l) (cR : lsr (K (m + 21)) 0 rl) (hn : (rl.map (fun k => l.getD k 0)).Nodup) : Ok (f_X5_needsBy m (nI w) (m + 21) 10 J K) (fun r => r.1 = nI (nds T A w (rl.map (fun k => l.getD k 0)) 0 0) ∧ ∀ b, b ≠ m + 20 → r.2 b = K b) := by
  have hO := hT.2.1
  have hob0 : ∀ o, hob T A w 0 o = false := fun o => by unfold hob; simp
  unfold f_X5_needsBy
  refine ok_bs (lp_cp (K := K) (m + 20) 0 16 (fun _ => 0) (fun k hk => ?_) (fun K' => ?_)) ?_
  · refine it_p (nI_lt (b := 16) hk (by omega)) (bnd_s (wr_k k rfl (by omega) (by omega)) ?_)
    rw [Nat.zero_add]
  · exact it_n (nI_nlt (a := 16) (b := 16) (by omega) (by omega)) rfl
  · have e : ∀ b, b ≠ m + 20 → sr K (m + 20) (ffl (K (m + 20)) 0 16 (fun _ => 0)) b = K b := fun b hb => sr_o hb
    have h0 : bs (hob T A w 0) (tiO T) = 0 := by
      refine Nat.eq_of_testBit_eq (fun j => ?_)
      rw [bs_t, hob0, Nat.zero_testBit]
      simp
    have hc0 : ct (hob T A w 0) (tiO T) = 0 := by
      have : ∀ n, ct (hob T A w 0) n = 0 := by
        intro n
        induction n with
        | zero => rfl
        | succ n ih => rw [ct, ih, hob0]; rfl
      exact this _
    have hGz : ∀ q, q < 16 → sr K (m + 20) (ffl (K (m + 20)) 0 16 (fun _ => 0)) (m + 20) q = nI (gtt T A w 0 q) := by
      intro q hq
      have h1 : ffl (K (m + 20)) 0 16 (fun _ => 0) (0 + q) = 0 := ffl_i hq
      rw [Nat.zero_add] at h1
      have h2 : gtt T A w 0 q = 0 := sm_z (fun i hi => by rw [Nat.zero_testBit]; rfl)
      rw [sr_s, h1, h2]
      rfl
    have h := nb_l (A := A) (J := J) hT hw hl10 hll hrl hr rl [] (sr K (m + 20) (ffl (K (m + 20)) 0 16 (fun _ => 0))) 0 0 rfl (cT.fr (fun q hq => e _ (by omega))) (by unfold MPk; rw [e _ (by omega), e _ (by omega), e _ (by omega)]; exact cP) (by rw [e _ (by omega)]; exact cR) hn (fun k _ => Nat.zero_testBit _) (by omega) (by omega) hGz
    rw [h0] at h
    exact ok_bind h (fun r hr => ok_some ⟨hr.1, fun b hb => (hr.2 b hb).trans (e b hb)⟩)
end Nd2
