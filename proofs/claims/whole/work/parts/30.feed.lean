/-! feed -/
theorem CU.fr2 {x ni : Nat} {z : Sh} {I I' : MI} {Us : List Fl} {Ks : Nat → Option Fl} (h : CU x ni z I Us Ks) (hz : Slo x z) (e8 : I' x 8 = I x 8) (e9 : I' x 9 = I x 9) (e1 : I' (x + 45) = I (x + 45)) (e2 : ∀ a, x + 70 ≤ a → I' a = I a) : CU x ni z I' Us Ks := by
  obtain ⟨⟨p, hp, h8, hU⟩, h9, hl, hK⟩ := h
  refine ⟨⟨p, hp, by rw [e8]; exact h8, fun j B hj => ?_⟩, by rw [e9]; exact h9, hl, fun k hk => ⟨fun q => by rw [e1]; exact (hK k hk).1 q, fun B hB => ?_⟩⟩
  · obtain ⟨a, ha, hc⟩ := hU j B hj
    have := hz.1 _ a (by omega) ha
    exact ⟨a, ha, hc.fr (fun r _ => e2 _ (by omega))⟩
  · obtain ⟨hb, a, ha, hc⟩ := (hK k hk).2 B hB
    have := hz.1 _ a (by omega) ha
    exact ⟨by rw [e1]; exact hb, a, ha, hc.fr (fun r _ => e2 _ (by omega))⟩
def by8 (v s : Int32) : Int32 := ((v >>> (s &&& 31)).toInt8.toInt32).toInt8.toInt32
theorem by8_b (v s : Int32) : (by8 v s).toInt8.toInt32 = by8 v s := by unfold by8; simp
def tp4 (tp : Nat → Int32) (n : Nat) (v : Int32) : Nat → Int32 := pu (pu (pu (pu tp n (by8 v 24)) (n + 1) (by8 v 16)) (n + 2) (by8 v 8)) (n + 3) (by8 v 0)
theorem tp4_b {tp : Nat → Int32} {n : Nat} {v : Int32} (h : ∀ k, k < n → (tp k).toInt8.toInt32 = tp k) : ∀ k, k < n + 4 → (tp4 tp n v k).toInt8.toInt32 = tp4 tp n v k := by
  intro k hk
  unfold tp4 pu
  split
  · exact by8_b _ _
  · split
    · exact by8_b _ _
    · split
      · exact by8_b _ _
      · split
        · exact by8_b _ _
        · exact h k (by omega)
def Tf (a f : Nat) (I I' : MI) : Prop := (∀ b, b ≠ a → b ≠ a + 1 → I' b = I b) ∧ ∀ k, k ≠ f → I' a k = I a k
theorem Tf.tr {a f : Nat} {I I' I'' : MI} (h : Tf a f I I') (h' : Tf a f I' I'') : Tf a f I I'' := ⟨fun b h1 h2 => (h'.1 b h1 h2).trans (h.1 b h1 h2), fun k hk => (h'.2 k hk).trans (h.2 k hk)⟩
def st1 (a f : Nat) (I : MI) (n : Nat) (b : Int32) : MI := mst (mst I (a + 1) n b) a f (nI (n + 1))
theorem st1_f {a f : Nat} {I : MI} {n : Nat} {b : Int32} : Tf a f I (st1 a f I n b) := by
  refine ⟨fun c h1 h2 => ?_, fun k hk => ?_⟩
  · unfold st1
    rw [mst_row _ _ _ h1, mst_row _ _ _ h2]
  · unfold st1
    rw [mst_ne _ _ (Or.inr hk), mst_ne _ _ (Or.inl (by omega))]
theorem CP.put {a f : Nat} {I : MI} {n : Nat} {tp : Nat → Int32} {b : Int32} (h : CP a f I n tp) : CP a f (st1 a f I n b) (n + 1) (pu tp n b) := by
  refine ⟨mst_self _ _ _ _, fun k hk => ?_⟩
  unfold st1
  rw [mst_row _ _ _ (by omega), ms_r]
  by_cases e : k = n
  · rw [e, pu_s, pu_s]
  · rw [pu_n e, pu_n e]
    exact h.2 k (by omega)
theorem pt_c {x t u : Nat} {I : MI} {n : Nat} {tp : Nat → Int32} {v : Int32} (h : CP x 1 I n tp) (hn : n + 4 ≤ 600) : Ok (f_X4_putOnTape x t u v I) (fun I' => CP x 1 I' (n + 4) (tp4 tp n v) ∧ Tf x 1 I I') := by
  have step : ∀ (I : MI) (k : Nat) (tp : Nat → Int32) (s s' : Int32), CP x 1 I k tp → k < 600 → ¬ s < 0 → s + (-8) = s' → b_X4_putOnTape_3 x v (s, I) = some (.inl (s', st1 x 1 I k (by8 v s))) := by
    intro I k tp s s' h hk h0 hs
    subst hs
    refine it_n h0 ?_
    have e : mst I (x + 1) k (by8 v s) x 1 + 1 = nI (k + 1) := by rw [mst_ne _ _ (Or.inl (by omega)), h.1, nI_1]
    refine bnd_s (it_p (by show I x 1 < 600; rw [h.1]; exact nI_lt (b := 600) hk (by omega)) (bnd_s (wr_k k h.1 hk (by omega)) (bnd_s rfl rfl))) ?_
    show some (Sum.inl (s + -8, mst (mst I (x + 1) k (by8 v s)) x 1 (mst I (x + 1) k (by8 v s) x 1 + 1))) = _
    rw [e]
    rfl
  have h1 := h.put (b := by8 v 24)
  have h2 := h1.put (b := by8 v 16)
  have h3 := h2.put (b := by8 v 8)
  have h4 := h3.put (b := by8 v 0)
  refine ⟨_, ?_, h4, st1_f.tr (st1_f.tr (st1_f.tr st1_f))⟩
  unfold f_X4_putOnTape
  refine bnd_s (lp_next (step I n tp 24 16 h (by omega) (by decide) (by decide)) (lp_next (step _ (n + 1) _ 16 8 h1 (by omega) (by decide) (by decide)) (lp_next (step _ (n + 2) _ 8 0 h2 (by omega) (by decide) (by decide)) (lp_next (step _ (n + 3) _ 0 (-8) h3 (by omega) (by decide) (by decide)) (lp_done (it_p (show (-8 : Int32) < 0 by decide) rfl)))))) rfl
theorem pt_m {m : Nat} {J : MJ} {I : MI} {n : Nat} {tp : Nat → Int32} {v : Int32} (h : CP m 2 I n tp) (hn : n + 4 ≤ 600) : Ok (f_X5_puts m v J I) (fun I' => CP m 2 I' (n + 4) (tp4 tp n v) ∧ Tf m 2 I I') := by
  have step : ∀ (I : MI) (k : Nat) (tp : Nat → Int32) (s s' : Int32), CP m 2 I k tp → k < 600 → ¬ s < 0 → s + (-8) = s' → b_X5_puts_3 m v (s, I) = some (.inl (s', st1 m 2 I k (by8 v s))) := by
    intro I k tp s s' h hk h0 hs
    subst hs
    refine it_n h0 ?_
    have e : mst I (m + 1) k (by8 v s) m 2 + 1 = nI (k + 1) := by rw [mst_ne _ _ (Or.inl (by omega)), h.1, nI_1]
    refine bnd_s (wr_k k h.1 hk (by omega)) (bnd_s rfl ?_)
    show some (Sum.inl (s + -8, mst (mst I (m + 1) k (by8 v s)) m 2 (mst I (m + 1) k (by8 v s) m 2 + 1))) = _
    rw [e]
    rfl
  have h1 := h.put (b := by8 v 24)
  have h2 := h1.put (b := by8 v 16)
  have h3 := h2.put (b := by8 v 8)
  have h4 := h3.put (b := by8 v 0)
  refine ⟨_, ?_, h4, st1_f.tr (st1_f.tr (st1_f.tr st1_f))⟩
  unfold f_X5_puts
  refine bnd_s (lp_next (step I n tp 24 16 h (by omega) (by decide) (by decide)) (lp_next (step _ (n + 1) _ 16 8 h1 (by omega) (by decide) (by decide)) (lp_next (step _ (n + 2) _ 8 0 h2 (by omega) (by decide) (by decide)) (lp_next (step _ (n + 3) _ 0 (-8) h3 (by omega) (by decide) (by decide)) (lp_done (it_p (show (-8 : Int32) < 0 by decide) rfl)))))) rfl
def tp20 (tp : Nat → Int32) (n : Nat) (a b c d e : Int32) : Nat → Int32 := tp4 (tp4 (tp4 (tp4 (tp4 tp n a) (n + 4) b) (n + 8) c) (n + 12) d) (n + 16) e
theorem fd_c {x t u : Nat} {I : MI} {n : Nat} {tp : Nat → Int32} {a b c d e : Int32} (h : CP x 1 I n tp) (hn : n + 20 ≤ 600) : Ok (f_X4_feed x t u a b c d e I) (fun r => r.1 = nI (n + 20) ∧ CP x 1 r.2 (n + 20) (tp20 tp n a b c d e) ∧ Tf x 1 I r.2) := by
  unfold f_X4_feed
  refine ok_neg (by rw [h.1]; exact nI_nlt (a := 580) (by omega) (by omega)) ?_
  refine ok_bind (pt_c h (by omega)) (fun I1 h1 => ok_bind (pt_c h1.1 (by omega)) (fun I2 h2 => ok_bind (pt_c h2.1 (by omega)) (fun I3 h3 => ok_bind (pt_c h3.1 (by omega)) (fun I4 h4 => ok_bind (pt_c h4.1 (by omega)) (fun I5 h5 => ok_some ?_)))))
  exact ⟨h5.1.1, h5.1, h1.2.tr (h2.2.tr (h3.2.tr (h4.2.tr h5.2)))⟩
theorem fd_m {m : Nat} {J : MJ} {I : MI} {n : Nat} {tp : Nat → Int32} {a b c d e : Int32} (h : CP m 2 I n tp) (hn : n + 20 ≤ 600) : Ok (f_X5_feed m a b c d e J I) (fun r => r.1 = nI (n + 20) ∧ CP m 2 r.2 (n + 20) (tp20 tp n a b c d e) ∧ Tf m 2 (mst I m 0 0) r.2) := by
  unfold f_X5_feed
  refine ok_wf ?_
  have h' : CP m 2 (mst I m 0 0) n tp := ⟨by rw [mst_ne _ _ (Or.inr (by omega))]; exact h.1, by rw [mst_row _ _ _ (by omega)]; exact h.2⟩
  refine ok_neg (by rw [h'.1, show (20 : Int32) = nI 20 from rfl, nI_add]; exact nI_nlt (a := 600) (by omega) (by omega)) ?_
  refine ok_bind (pt_m h' (by omega)) (fun I1 h1 => ok_bind (pt_m h1.1 (by omega)) (fun I2 h2 => ok_bind (pt_m h2.1 (by omega)) (fun I3 h3 => ok_bind (pt_m h3.1 (by omega)) (fun I4 h4 => ok_bind (pt_m h4.1 (by omega)) (fun I5 h5 => ok_some ?_)))))
  exact ⟨h5.1.1, h5.1, h1.2.tr (h2.2.tr (h3.2.tr (h4.2.tr h5.2)))⟩
theorem case_0 {x L : Nat} {xs : Nat → Int32} (hL : L ≤ 3072) : CaseOk (Inv x) L (fun t u i z J I => f_Lc_0 x t u (x + 46) L xs i z J I) := by
  rintro t u z J I k ⟨⟨T, A, n, tp, Us, Ks⟩, hg, hz, hc, hm⟩ hk
  have r1 := sc_rd (xs := xs) (d := 1) (j := 1) rfl (by omega) hk hL
  have r2 := sc_rd (xs := xs) (d := 2) (j := 2) rfl (by omega) hk hL
  have r3 := sc_rd (xs := xs) (d := 3) (j := 3) rfl (by omega) hk hL
  have r4 := sc_rd (xs := xs) (d := 4) (j := 4) rfl (by omega) hk hL
  have r5 := sc_rd (xs := xs) (d := 5) (j := 5) rfl (by omega) hk hL
  obtain ⟨g1, g2, ⟨g3, g4, g5⟩, g6, g7⟩ := hg
  dsimp only at g3 g4 g5
  obtain ⟨c1, c2, c3, c4⟩ := hc
  obtain ⟨m1, m2, m3, m4⟩ := hm
  dsimp only at c3 m3
  by_cases hn : n + 20 ≤ 600
  · obtain ⟨⟨v, I1⟩, e1, a1, a2, a3⟩ := fd_c (t := t) (u := u) (a := xs (6 * k + 1)) (b := xs (6 * k + 2)) (c := xs (6 * k + 3)) (d := xs (6 * k + 4)) (e := xs (6 * k + 5)) c3 hn
    dsimp only at a1 a2 a3
    have q1 : CP (x + 46) 2 I1 n tp := ⟨by rw [a3.1 _ (by omega) (by omega)]; exact m3.1, by rw [a3.1 _ (by omega) (by omega)]; exact m3.2⟩
    obtain ⟨⟨w, I2⟩, e2, b1, b2, b3⟩ := fd_m (J := J) (a := xs (6 * k + 1)) (b := xs (6 * k + 2)) (c := xs (6 * k + 3)) (d := xs (6 * k + 4)) (e := xs (6 * k + 5)) q1 hn
    dsimp only at b1 b2 b3
    have fM : ∀ a, a ≠ x + 46 → a ≠ x + 47 → I2 a = I1 a := fun a h1 h2 => (b3.1 a h1 h2).trans (mst_row _ _ _ h1)
    refine ⟨z, J, I2, t, u, ?_, ⟨T, A, n + 20, tp20 tp n (xs (6 * k + 1)) (xs (6 * k + 2)) (xs (6 * k + 3)) (xs (6 * k + 4)) (xs (6 * k + 5)), Us, Ks⟩, ⟨g1, g2, ⟨by omega, by dsimp only; omega, ?_⟩, g6, g7⟩, hz, ⟨?_, ?_, ?_, ?_⟩, ?_, ?_, b2, ?_⟩
    · show f_Lc_0 x t u (x + 46) L xs (nI (6 * k)) z J I = _
      unfold f_Lc_0
      refine bnd_s r1 (bnd_s r2 (bnd_s r3 (bnd_s r4 (bnd_s r5 (bnd_s e1 (bnd_s r1 (bnd_s r2 (bnd_s r3 (bnd_s r4 (bnd_s r5 (bnd_s e2 ?_)))))))))))
      exact if_pos (a1.trans b1.symm)
    · exact tp4_b (n := n + 16) (tp4_b (n := n + 12) (tp4_b (n := n + 8) (tp4_b (n := n + 4) (tp4_b g5))))
    · have ht := hz.2.2.2.1
      exact c1.fr (fun r hr => (fM _ (by omega) (by omega)).trans (a3.1 _ (by omega) (by omega)))
    · exact c2.fr (fun r hr => (fM _ (by omega) (by omega)).trans (a3.1 _ (by omega) (by omega)))
    · exact ⟨by rw [fM _ (by omega) (by omega)]; exact a2.1, by rw [fM _ (by omega) (by omega)]; exact a2.2⟩
    · exact c4.fr2 hz.2.2.2.2.2 (by rw [fM _ (by omega) (by omega)]; exact a3.2 8 (by omega)) (by rw [fM _ (by omega) (by omega)]; exact a3.2 9 (by omega)) ((fM _ (by omega) (by omega)).trans (a3.1 _ (by omega) (by omega))) (fun a ha => (fM _ (by omega) (by omega)).trans (a3.1 _ (by omega) (by omega)))
    · dsimp only at m1 ⊢
      have e : ∀ r, 2 ≤ r → I2 (x + 46 + r) = I (x + 46 + r) := fun r hr => (fM _ (by omega) (by omega)).trans (a3.1 _ (by omega) (by omega))
      unfold MT at m1 ⊢
      rw [e 2 (by omega), e 3 (by omega), e 4 (by omega), e 5 (by omega), e 6 (by omega), e 8 (by omega), e 11 (by omega), e 12 (by omega)]
      exact m1
    · have e : ∀ r, 2 ≤ r → I2 (x + 46 + r) = I (x + 46 + r) := fun r hr => (fM _ (by omega) (by omega)).trans (a3.1 _ (by omega) (by omega))
      dsimp only
      rw [e 13 (by omega)]
      exact m2
    · have e : ∀ r, 2 ≤ r → I2 (x + 46 + r) = I (x + 46 + r) := fun r hr => (fM _ (by omega) (by omega)).trans (a3.1 _ (by omega) (by omega))
      have e29 : I2 (x + 46) 29 = I (x + 46) 29 := by rw [b3.2 29 (by omega), mst_ne _ _ (Or.inr (by omega)), a3.1 _ (by omega) (by omega)]
      dsimp only at m4 ⊢
      unfold MU at m4 ⊢
      rw [e 14 (by omega), e 15 (by omega), e 16 (by omega), e29]
      exact m4
  · refine ⟨z, J, mst I (x + 46) 0 0, t, u, ?_, Inv.ask ⟨g1, g2, ⟨g3, g4, g5⟩, g6, g7⟩ hz ⟨c1, c2, c3, c4⟩ ⟨m1, m2, m3, m4⟩⟩
    show f_Lc_0 x t u (x + 46) L xs (nI (6 * k)) z J I = _
    have e1 : ∀ a b c d e, f_X4_feed x t u a b c d e I = some (-1, I) := fun a b c d e => it_p (by rw [c3.1]; exact nI_lt (a := 580) (by omega) (by omega)) rfl
    have e2 : ∀ a b c d e, f_X5_feed (x + 46) a b c d e J I = some (-1, mst I (x + 46) 0 0) := fun a b c d e => bnd_s rfl (it_p (by rw [mst_ne _ _ (Or.inr (by omega)), m3.1, show (20 : Int32) = nI 20 from rfl, nI_add]; exact nI_lt (a := 600) (by omega) (by omega)) rfl)
    unfold f_Lc_0
    refine bnd_s r1 (bnd_s r2 (bnd_s r3 (bnd_s r4 (bnd_s r5 (bnd_s (e1 _ _ _ _ _) (bnd_s r1 (bnd_s r2 (bnd_s r3 (bnd_s r4 (bnd_s r5 (bnd_s (e2 _ _ _ _ _) ?_)))))))))))
    exact if_pos rfl
