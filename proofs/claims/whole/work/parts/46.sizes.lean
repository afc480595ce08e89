/-! waves by sizes -/
def Ms (m : Nat) (K K' : MI) : Prop := (∀ a, a < m ∨ m + 23 ≤ a ∨ (m < a ∧ a < m + 18) → K' a = K a) ∧ ∀ k, 0 < k → k < 35 → K' m k = K m k
theorem Ms.rf {m : Nat} {K : MI} : Ms m K K := ⟨fun _ _ => rfl, fun _ _ _ => rfl⟩
theorem Ms.tr {m : Nat} {K K' K'' : MI} (h : Ms m K K') (h' : Ms m K' K'') : Ms m K K'' := ⟨fun a ha => (h'.1 a ha).trans (h.1 a ha), fun k h1 h2 => (h'.2 k h1 h2).trans (h.2 k h1 h2)⟩
theorem Ms.f {m k : Nat} {K : MI} {v : Int32} (h : k = 0 ∨ 35 ≤ k) : Ms m K (mst K m k v) := ⟨fun a ha => mst_row _ _ _ (by omega), fun j h1 h2 => mst_ne _ _ (by omega)⟩
theorem Ms.r {m r k : Nat} {K : MI} {v : Int32} (h : 18 ≤ r) (h' : r < 23) : Ms m K (mst K (m + r) k v) := ⟨fun a ha => mst_row _ _ _ (by omega), fun j h1 h2 => mst_ne _ _ (by omega)⟩
theorem MW.ms {m : Nat} {K K' : MI} {D : Dt} (h : MW m K D) (e : Ms m K K') : MW m K' D := h.fr ⟨e.2 2 (by omega) (by omega), e.2 29 (by omega) (by omega)⟩ (fun r hr => e.1 _ (by omega))
theorem MT.ms {m : Nat} {K K' : MI} {T : Tx} (h : MT K m T) (e : Ms m K K') : MT K' m T := h.fr (fun r hr => e.1 _ (by omega))
def Pl (x : Nat) (I I' : MI) : Prop := ∀ a, a < x + 34 ∨ x + 43 ≤ a → I' a = I a
theorem Inv.pl {x t u : Nat} {z : Sh} {J : MJ} {I I1 K : MI} {D : Dt} (hg : GD D) (hz : GZ x t u z) (hc : CW x t z I D) (hm : MW (x + 46) I D) (h1 : Pl x I I1) (h2 : Ms (x + 46) I1 K) : Inv x t u z J K := by
  have ht := hz.2.2.2.1
  have hc1 : CW x t z I1 D := hc.fr hz.2.2.2.2.2 (fun a ha => h1 a (by omega))
  have hm1 : MW (x + 46) I1 D := hm.cd (fun a ha => h1 a (by omega))
  exact ⟨D, hg, hz, hc1.md hz (fun a ha => h2.1 a (by omega)), hm1.ms h2⟩
theorem ok_next {σ ρ : Type} {b : σ → Option (σ ⊕ ρ)} {s s' : σ} {Q : ρ → Prop} (h : b s = some (.inl s')) (k : Ok (lp b s') Q) : Ok (lp b s) Q := by
  obtain ⟨r, h1, h2⟩ := k
  exact ⟨r, lp_next h h1, h2⟩
theorem ct_lt {p q : Nat → Bool} {n k : Nat} (h : ∀ i, q i = true → p i = true) (hk : k < n) (hp : p k = true) (hq : q k = false) : ct q n < ct p n := by
  induction n with
  | zero => omega
  | succ n ih =>
    have le : ∀ m, ct q m ≤ ct p m := by
      intro m
      induction m with
      | zero => exact Nat.le_refl _
      | succ m im =>
        rw [ct, ct]
        cases hqm : q m
        · simp; omega
        · rw [h m hqm]; simp; omega
    rw [ct, ct]
    by_cases e : k = n
    · rw [← e, hp, hq]
      have := le k
      simp
      omega
    · have h1 := ih (by omega)
      cases hqm : q n
      · simp; omega
      · rw [h n hqm]; simp; omega
def szs (T : Tx) (mo : Nat) : Nat → Nat → Nat × Nat
  | 0, _ => (0, 0)
  | k + 1, L => if L = 0 then (0, 0) else ((szs T mo k (df L (wav T L mo))).1 + 1, (szs T mo k (df L (wav T L mo))).2 + pop (itS T (wav T L mo) (tiO T)))
theorem ws_l {I : MI} {t : Nat} {T : Tx} (hT : CT I t T) (hg : GT T) {mo : Nat} (h1 : 1 ≤ mo) (h8 : mo ≤ 8) : ∀ k L a i, i + k = 16 → L < 65536 → ∃ p, lp (b_X4_wavesOfSize_17 t (nI mo) I) (nI L, nI a, nI i) = some p ∧ p.2.1 = nI (a + (szs T mo k L).1) := by
  intro k
  induction k with
  | zero =>
    intro L a i hi hL
    exact ⟨_, lp_done (it_n (nI_nlt (a := i) (b := 16) (by omega) (by omega)) rfl), rfl⟩
  | succ k ih =>
    intro L a i hi hL
    rw [szs]
    by_cases h0 : L = 0
    · rw [if_pos h0]
      exact ⟨_, lp_done (it_p (nI_lt (a := i) (b := 16) (by omega) (by omega)) (it_p (by rw [h0]; rfl) rfl)), rfl⟩
    · rw [if_neg h0]
      obtain ⟨p, hp, hq⟩ := ih (df L (wav T L mo)) (a + 1) (i + 1) (by omega) (df_16 hL)
      refine ⟨p, lp_next (it_p (nI_lt (a := i) (b := 16) (by omega) (by omega)) (it_n (nI_ne0 (by omega) (by omega)) (bnd_s (ga_c hT hg hL h1 h8) ?_))) hp, ?_⟩
      · dsimp only
        rw [b_df (by omega), nI_1, nI_1]
      · rw [hq]
        congr 1
        omega
theorem ps_l {I : MI} {t : Nat} {T : Tx} (hT : CT I t T) (hg : GT T) {mo : Nat} (h1 : 1 ≤ mo) (h8 : mo ≤ 8) : ∀ k L a i, i + k = 16 → L < 65536 → ∃ p, lp (b_X4_picksOfSize_17 t (nI mo) I) (nI L, nI a, nI i) = some p ∧ p.2.1 = nI (a + (szs T mo k L).2) := by
  intro k
  induction k with
  | zero =>
    intro L a i hi hL
    exact ⟨_, lp_done (it_n (nI_nlt (a := i) (b := 16) (by omega) (by omega)) rfl), rfl⟩
  | succ k ih =>
    intro L a i hi hL
    rw [szs]
    by_cases h0 : L = 0
    · rw [if_pos h0]
      exact ⟨_, lp_done (it_p (nI_lt (a := i) (b := 16) (by omega) (by omega)) (it_p (by rw [h0]; rfl) rfl)), rfl⟩
    · rw [if_neg h0]
      obtain ⟨p, hp, hq⟩ := ih (df L (wav T L mo)) (a + pop (itS T (wav T L mo) (tiO T))) (i + 1) (by omega) (df_16 hL)
      refine ⟨p, lp_next (it_p (nI_lt (a := i) (b := 16) (by omega) (by omega)) (it_n (nI_ne0 (by omega) (by omega)) (bnd_s (ga_c hT hg hL h1 h8) (bnd_s (ia_c hT hg (wav_lt hL)) (bnd_s (bc_s it_16) ?_))))) hp, ?_⟩
      · dsimp only
        rw [b_df (by omega), nI_1, nI_add]
      · rw [hq]
        congr 1
        omega
theorem ls_l {m : Nat} {J : MJ} {T : Tx} (hg : GT T) {mo : Nat} (h1 : 1 ≤ mo) (h8 : mo ≤ 8) : ∀ k L (K : MI) a b, L < 65536 → (∀ i, L.testBit i = true → i < tiO T) → pop L ≤ k → MT K m T → K m 40 = nI a → K m 41 = nI b → Ok (lp (b_X5_laysSizes_15 m (nI mo) J) (nI L, K)) (fun p => p.2 m 40 = nI (a + (szs T mo k L).1) ∧ p.2 m 41 = nI (b + (szs T mo k L).2) ∧ Ms m K p.2) := by
  have hO := hg.2.1
  intro k
  induction k with
  | zero =>
    intro L K a b hL hb hk hT ha hb2
    obtain rfl := pop_0 hL (by omega)
    exact Ok.mk (lp_done (it_p rfl rfl)) ⟨ha, hb2, Ms.rf⟩
  | succ k ih =>
    intro L K a b hL hb hk hT ha hb2
    rw [szs]
    by_cases h0 : L = 0
    · rw [if_pos h0, h0]
      exact Ok.mk (lp_done (it_p rfl rfl)) ⟨ha, hb2, Ms.rf⟩
    · rw [if_neg h0]
      have hf := frs_ne h0 hb
      have hfp := frs_p hf
      have hwb := wav_ne (mo := mo) hf
      have e1 : Ms m K (mst K m 40 (nI (a + 1))) := Ms.f (by omega)
      have e2 : Ms m (mst K m 40 (nI (a + 1))) (mst (mst K m 40 (nI (a + 1))) m 41 (nI (b + pop (itS T (wav T L mo) (tiO T))))) := Ms.f (by omega)
      have hlt : pop (df L (wav T L mo)) < pop L := ct_lt (k := frs T L - 1) (fun i hi => by rw [df_t, Bool.and_eq_true] at hi; exact hi.1) (by omega) hfp.1 (by rw [df_t, hwb]; simp)
      refine ok_next (s' := (nI (df L (wav T L mo)), mst (mst K m 40 (nI (a + 1))) m 41 (nI (b + pop (itS T (wav T L mo) (tiO T)))))) ?_ ((ih _ _ (a + 1) (b + pop (itS T (wav T L mo) (tiO T))) (df_16 hL) (fun i hi => hb i (by rw [df_t, Bool.and_eq_true] at hi; exact hi.1)) (by omega) ((hT.ms e1).ms e2) ?_ ?_).im (fun p hp => ?_))
      · refine it_n (nI_ne0 (by omega) (by omega)) (bnd_s (wo_m hT hg hL h1 h8) (bnd_s rfl ?_))
        dsimp only
        rw [ha, nI_1]
        refine bnd_s (im_m (hT.ms e1) hg (wav_lt hL)) (bnd_s (c1_s it_16) (bnd_s rfl ?_))
        rw [b_df (by omega), mst_ne _ _ (by omega), hb2, nI_add]
      · rw [mst_ne _ _ (by omega), mst_self]
      · rw [mst_self]
      · obtain ⟨p1, p2, p3⟩ := hp
        refine ⟨?_, ?_, (e1.tr e2).tr p3⟩
        · rw [p1]; congr 1; omega
        · rw [p2]; congr 1; omega
theorem wts_b {T : Tx} {A : Fl} : ∀ i, (wts T A).testBit i = true → i < tiO T := by
  intro i h
  unfold wts at h
  rw [bs_t, Bool.and_eq_true, decide_eq_true_eq] at h
  exact h.1
def szA (T : Tx) (A : Fl) (mo : Nat) : Nat × Nat := szs T mo 16 (wts T A)
section Sizes
variable {x t u : Nat} {z : Sh} {I : MI} {J : MJ} {D : Dt}
theorem ws_c (hg : GD D) (hc : CW x t z I D) {mo : Nat} (h1 : 1 ≤ mo) (h8 : mo ≤ 8) : f_X4_wavesOfSize x t u (nI mo) I = some (nI (szA D.1 D.2.1 mo).1) := by
  unfold f_X4_wavesOfSize
  obtain ⟨p, hp, hq⟩ := ws_l hc.1 hg.1 h1 h8 16 (wts D.1 D.2.1) 0 0 (by omega) (bs_16 hg.1.2.1)
  rw [Nat.zero_add] at hq
  exact bnd_s (wc_s hc.1 hc.2.1 hg.1.2.1 (fun o ho => (hg.2.1.1.2.1 o ho).1)) (bnd_s hp (congrArg some hq))
theorem ps_c (hg : GD D) (hc : CW x t z I D) {mo : Nat} (h1 : 1 ≤ mo) (h8 : mo ≤ 8) : f_X4_picksOfSize x t u (nI mo) I = some (nI (szA D.1 D.2.1 mo).2) := by
  unfold f_X4_picksOfSize
  obtain ⟨p, hp, hq⟩ := ps_l hc.1 hg.1 h1 h8 16 (wts D.1 D.2.1) 0 0 (by omega) (bs_16 hg.1.2.1)
  rw [Nat.zero_add] at hq
  exact bnd_s (wc_s hc.1 hc.2.1 hg.1.2.1 (fun o ho => (hg.2.1.1.2.1 o ho).1)) (bnd_s hp (congrArg some hq))
theorem ls_m {m : Nat} {K : MI} (hg : GD D) (hm : MW m K D) {mo : Nat} (h1 : 1 ≤ mo) (h8 : mo ≤ 8) : Ok (f_X5_laysSizes m (nI mo) J K) (fun K' => K' m 40 = nI (szA D.1 D.2.1 mo).1 ∧ K' m 41 = nI (szA D.1 D.2.1 mo).2 ∧ Ms m K K') := by
  unfold f_X5_laysSizes
  have e1 : Ms m K (mst K m 40 0) := Ms.f (by omega)
  have e2 : Ms m (mst K m 40 0) (mst (mst K m 40 0) m 41 0) := Ms.f (by omega)
  have hm2 := (hm.ms e1).ms e2
  refine ok_wf (ok_wf (ok_bs (wm_s hm2.1 hm2.2.1 hg.1.2.1 (fun o ho => (hg.2.1.1.2.1 o ho).1)) (ok_bind (ls_l (a := 0) (b := 0) (J := J) hg.1 h1 h8 16 _ _ (bs_16 hg.1.2.1) wts_b (pop_le _) hm2.1 ?_ ?_) (fun p hp => ok_some ?_))))
  · rw [mst_ne _ _ (by omega), mst_self]; rfl
  · rw [mst_self]; rfl
  · obtain ⟨p1, p2, p3⟩ := hp
    rw [Nat.zero_add] at p1 p2
    exact ⟨p1, p2, (e1.tr e2).tr p3⟩
theorem q_sizes (hg : GD D) (hc : CW x t z I D) (hm : MW (x + 46) I D) (p q : Int32) : ∃ v K, f_X4_sizes x t u p q I = some v ∧ f_X5_sizes (x + 46) p q J I = some (v, K) ∧ Ms (x + 46) I K := by
  have e0 : Ms (x + 46) I (mst I (x + 46) 0 0) := Ms.f (by omega)
  unfold f_X4_sizes f_X5_sizes
  rcases w_1n p 8 (by omega) with ⟨hw, n, hn1, hn2, rfl⟩ | ⟨hw, hw2⟩
  · have n1 : ¬ nI n < 1 := nI_nlt (a := n) (b := 1) hn1 (by omega)
    have n2 : ¬ (8 : Int32) < nI n := nI_nlt (a := 8) (b := n) hn2 (by omega)
    obtain ⟨K, k1, k2, k3, k4⟩ := ls_m (J := J) hg (hm.ms e0) hn1 hn2
    by_cases q0 : q = 0
    · subst q0
      refine ⟨nI (szA D.1 D.2.1 n).1, K, it_n n1 (it_n n2 (it_n (by decide) (it_n (by decide) (bnd_s (it_p rfl (bnd_s (ws_c hg hc hn1 hn2) rfl)) rfl)))), bnd_s rfl (bnd_s hw (it_n (by decide) (bnd_s (w_01 0) (it_n (by decide) (bnd_s k1 (bnd_s (it_p rfl rfl) ?_)))))), e0.tr k4⟩
      rw [k2]
    by_cases q1 : q = 1
    · subst q1
      refine ⟨nI (szA D.1 D.2.1 n).2, K, it_n n1 (it_n n2 (it_n (by decide) (it_n (by decide) (bnd_s (it_n (by decide) (bnd_s (ps_c hg hc hn1 hn2) rfl)) rfl)))), bnd_s rfl (bnd_s hw (it_n (by decide) (bnd_s (w_01 1) (it_n (by decide) (bnd_s k1 (bnd_s (it_n (by decide) rfl) ?_)))))), e0.tr k4⟩
      rw [k3]
    · refine ⟨-1, _, it_n n1 (it_n n2 ?_), bnd_s rfl (bnd_s hw (it_n (by decide) (bnd_s (w_01 q) (it_p (if_neg (fun w => w.elim q0 q1)) rfl)))), e0⟩
      by_cases h : q < 0
      · exact it_p h rfl
      · exact it_n h (it_p (by grind) rfl)
  · refine ⟨-1, _, ?_, bnd_s rfl (bnd_s hw (it_p rfl rfl)), e0⟩
    by_cases h : p < 1
    · exact it_p h rfl
    · exact it_n h (it_p (hw2.elim (fun w => absurd w h) id) rfl)
/-- the best size: sizes 1 to k + 1 looked at -/
def bz (T : Tx) (A : Fl) : Nat → Nat × Nat
  | 0 => (1, (szA T A 1).2)
  | k + 1 => if nI (szA T A (k + 2)).2 < nI (bz T A k).2 then (k + 2, (szA T A (k + 2)).2) else bz T A k
theorem bz_y {T : Tx} {A : Fl} {k : Nat} (h : nI (szA T A (k + 2)).2 < nI (bz T A k).2) : bz T A (k + 1) = (k + 2, (szA T A (k + 2)).2) := by rw [bz, if_pos h]
theorem bz_n {T : Tx} {A : Fl} {k : Nat} (h : ¬ nI (szA T A (k + 2)).2 < nI (bz T A k).2) : bz T A (k + 1) = bz T A k := by rw [bz, if_neg h]
theorem bz_b {T : Tx} {A : Fl} : ∀ k, 1 ≤ (bz T A k).1 ∧ (bz T A k).1 ≤ k + 1 := by
  intro k
  induction k with
  | zero => exact ⟨Nat.le_refl _, Nat.le_refl _⟩
  | succ k ih =>
    rw [bz]
    split
    · dsimp only; omega
    · omega
theorem q_bsize (hg : GD D) (hc : CW x t z I D) (hm : MW (x + 46) I D) : ∃ v K, f_X4_bestSize x t u I = some v ∧ f_X5_bestSize (x + 46) J I = some (v, K) ∧ Ms (x + 46) I K := by
  have e0 : Ms (x + 46) I (mst I (x + 46) 0 0) := Ms.f (by omega)
  have h1 : f_X4_bestSize x t u I = some (nI (bz D.1 D.2.1 7).1) := by
    unfold f_X4_bestSize
    refine bnd_s (ps_c (mo := 1) hg hc (by omega) (by omega)) ?_
    refine bnd_s (lp_fs (fun k => (nI (bz D.1 D.2.1 k).1, nI (bz D.1 D.2.1 k).2, nI (k + 2))) 7 (r := (nI (bz D.1 D.2.1 7).1, nI (bz D.1 D.2.1 7).2, nI 9)) (fun k hk => ?_) ?_) rfl
    · refine it_n (nI_nlt (a := 8) (b := k + 2) (by omega) (by omega)) (bnd_s (ps_c hg hc (by omega) (by omega)) ?_)
      dsimp only
      by_cases h : nI (szA D.1 D.2.1 (k + 2)).2 < nI (bz D.1 D.2.1 k).2
      · rw [bz_y h]
        refine bnd_s (it_p h rfl) ?_
        dsimp only
        rw [nI_1]
      · rw [bz_n h]
        refine bnd_s (it_n h rfl) ?_
        dsimp only
        rw [nI_1]
    · exact it_p (nI_lt (a := 8) (b := 9) (by omega) (by omega)) rfl
  have h2 : Ok (f_X5_bestSize (x + 46) J I) (fun r => r.1 = nI (bz D.1 D.2.1 7).1 ∧ Ms (x + 46) I r.2) := by
    unfold f_X5_bestSize
    refine ok_wf ?_
    obtain ⟨K1, k1, k2, k3, k4⟩ := ls_m (J := J) (mo := 1) hg (hm.ms e0) (by omega) (by omega)
    refine ok_bind (P := fun p : Int32 × Int32 × Int32 × MI => p.1 = nI (bz D.1 D.2.1 7).1 ∧ Ms (x + 46) I p.2.2.2) ?_ (fun p hp => ok_some hp)
    refine ok_next (s' := (nI (bz D.1 D.2.1 0).1, nI (bz D.1 D.2.1 0).2, nI 2, K1)) ?_ ?_
    · refine it_n (by show ¬ (8 : Int32) < 1; decide) (bnd_s k1 (bnd_s (it_n (by show ¬ (0 : Int32) < 0; decide) rfl) ?_))
      rw [k3]
      rfl
    · refine ok_up 7 (fun k s => ∃ K, s = (nI (bz D.1 D.2.1 k).1, nI (bz D.1 D.2.1 k).2, nI (k + 2), K) ∧ Ms (x + 46) I K) (fun k s hk hs => ?_) (fun s hs => ?_) 0 _ (by omega) ⟨K1, rfl, e0.tr k4⟩
      · obtain ⟨K, rfl, hK⟩ := hs
        have hb := bz_b (T := D.1) (A := D.2.1) k
        refine ok_neg (nI_nlt (a := 8) (b := k + 2) (by omega) (by omega)) (ok_bind (ls_m (J := J) (mo := k + 2) hg (hm.ms hK) (by omega) (by omega)) (fun K' hK' => ?_))
        obtain ⟨_, q3, q4⟩ := hK'
        refine ok_bs (a := (nI (bz D.1 D.2.1 (k + 1)).1, nI (bz D.1 D.2.1 (k + 1)).2)) (it_p ((nI_p0 (by omega)).mpr (by omega)) ?_) (ok_some ⟨K', by dsimp only; rw [nI_1], hK.tr q4⟩)
        rw [q3]
        by_cases h : nI (szA D.1 D.2.1 (k + 2)).2 < nI (bz D.1 D.2.1 k).2
        · rw [bz_y h]
          exact it_p h rfl
        · rw [bz_n h]
          exact it_n h rfl
      · obtain ⟨K, rfl, hK⟩ := hs
        exact ok_pos (nI_lt (a := 8) (b := 9) (by omega) (by omega)) (ok_some ⟨rfl, hK⟩)
  obtain ⟨⟨v, K⟩, e, hv, hK⟩ := h2
  dsimp only at hv hK
  rw [hv] at e
  exact ⟨_, K, h1, e, hK⟩
end Sizes
theorem Pl.rf {x : Nat} {I : MI} : Pl x I I := fun _ _ => rfl
theorem case_21 {x L : Nat} {xs : Nat → Int32} (hL : L ≤ 3072) : CaseOk (Inv x) L (fun t u i z J I => f_Lc_21 x t u (x + 46) L xs i z J I) := by
  rintro t u z J I k ⟨D, hg, hz, hc, hm⟩ hk
  obtain ⟨v, K, h1, h2, h3⟩ := q_sizes (u := u) (J := J) hg hc hm (xs (6 * k + 1)) (xs (6 * k + 2))
  have r1 := sc_rd (xs := xs) (d := 1) (j := 1) rfl (by omega) hk hL
  have r2 := sc_rd (xs := xs) (d := 2) (j := 2) rfl (by omega) hk hL
  refine ⟨z, J, K, t, u, ?_, Inv.pl hg hz hc hm Pl.rf h3⟩
  show f_Lc_21 x t u (x + 46) L xs (nI (6 * k)) z J I = _
  unfold f_Lc_21
  exact bnd_s r1 (bnd_s r2 (bnd_s h1 (bnd_s r1 (bnd_s r2 (bnd_s h2 (if_pos rfl))))))
theorem case_22 {x L : Nat} {xs : Nat → Int32} : CaseOk (Inv x) L (fun t u i z J I => f_Lc_22 x t u (x + 46) L xs i z J I) := by
  rintro t u z J I k ⟨D, hg, hz, hc, hm⟩ hk
  obtain ⟨v, K, h1, h2, h3⟩ := q_bsize (u := u) (J := J) hg hc hm
  refine ⟨z, J, K, t, u, ?_, Inv.pl hg hz hc hm Pl.rf h3⟩
  show f_Lc_22 x t u (x + 46) L xs (nI (6 * k)) z J I = _
  unfold f_Lc_22
  exact bnd_s h1 (bnd_s h2 (if_pos rfl))
