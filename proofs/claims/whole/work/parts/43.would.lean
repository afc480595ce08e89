/-! wouldBe -/
theorem CU.mv {x ni : Nat} {z z' : Sh} {I I' : MI} {Us : List Fl} {Ks : Nat → Option Fl} (h : CU x ni z I Us Ks) (hs : ∀ s, s < 14 → slt x z' s = slt x z s) (e0 : I' x = I x) (e1 : I' (x + 45) = I (x + 45)) (e2 : ∀ s a, s < 14 → slt x z s = some a → ∀ r, r < 10 → I' (a + r) = I (a + r)) : CU x ni z' I' Us Ks := by
  obtain ⟨⟨p, hp, h8, hU⟩, h9, hl, hK⟩ := h
  refine ⟨⟨p, hp, by rw [e0]; exact h8, fun j B hj => ?_⟩, by rw [e0]; exact h9, hl, fun k hk => ⟨fun q => by rw [e1]; exact (hK k hk).1 q, fun B hB => ?_⟩⟩
  · obtain ⟨a, ha, hc⟩ := hU j B hj
    exact ⟨a, by rw [hs _ (by omega)]; exact ha, hc.fr (e2 _ a (by omega) ha)⟩
  · obtain ⟨hb, a, ha, hc⟩ := (hK k hk).2 B hB
    exact ⟨by rw [e1]; exact hb, a, by rw [hs _ (by omega)]; exact ha, hc.fr (e2 _ a (by omega) ha)⟩
theorem wb_e {x t u a : Nat} {z z' : Sh} {I I1 I2 : MI} {D : Dt} (hz : GZ x t u z) (hc : CW x t z I D) (hz' : GZ x t u z') (hs : ∀ s, s < 14 → slt x z' s = slt x z s) (ha : x + 70 ≤ a) (hdj : ∀ s b, s < 14 → slt x z s = some b → b + 10 ≤ a ∨ a + 10 ≤ b) (h1 : ∀ b, b < zs z → b < a ∨ a + 10 ≤ b → I1 b = I b) (h2 : Fo a I1 I2) : CW x t z' I2 D ∧ ∀ b, b < x + 70 → I2 b = I b := by
  have h5 := hz.2.2.2.2.1
  have ht := hz.2.2.2.1
  have e : ∀ b, b < x + 70 → I2 b = I b := fun b hb => (h2 b (by omega)).trans (h1 b (by omega) (by omega))
  obtain ⟨c1, c2, c3, c4⟩ := hc
  refine ⟨⟨c1.fr (fun r hr => e _ (by omega)), c2.fr (fun r hr => e _ (by omega)), c3.fr (by rw [e x (by omega)]) (e _ (by omega)), c4.mv hs (e _ (by omega)) (e _ (by omega)) (fun s b hs' hb r hr => ?_)⟩, e⟩
  have hb2 := hz.2.2.2.2.2.1 s b (by omega) hb
  have hd := hdj s b hs' hb
  exact (h2 _ (by omega)).trans (h1 _ (by omega) (by omega))
theorem wb_c {x t u : Nat} {z : Sh} {I : MI} {D : Dt} (hg : GD D) (hz : GZ x t u z) (hc : CW x t z I D) : Ok (f_X4_wouldBe x t u z I) (fun r => r.1 = nI (flC (tk D.1 864 D.2.1)).length ∧ GZ x t u r.2.1 ∧ zs z ≤ zs r.2.1 ∧ CW x t r.2.1 r.2.2 D ∧ ∀ b, b < x + 70 → r.2.2 b = I b) := by
  have hf := gf_fit hg.1 hg.2.1
  have h5 := hz.2.2.2.2.1
  have ht := hz.2.2.2.1
  have hsl : slt x z 14 = zR z x 12 := by unfold slt; rw [if_neg (by omega), if_neg (by omega)]
  unfold f_X4_wouldBe
  refine ok_nm ?_
  cases hq : zR z x 12 with
  | none =>
    obtain ⟨m1, m2⟩ := mk_fl (s := 14) (I := I) hz (by omega)
    refine ok_nm (ok_nm (ok_gd m1 (ok_bind m2 (fun r hr => ?_))))
    obtain ⟨r1, r2, r3, r4, r5, r6, r7, r8⟩ := hr
    have hss : sst x r.1 14 (zs z) = zSt r.1 x 12 (some (zs z)) := by unfold sst; rw [if_neg (by omega), if_neg (by omega), if_neg (by omega), if_neg (by omega)]
    refine ok_gd (by show zs z + 1 ≤ _; omega) (ok_gd r2 (ok_gd r3 (ok_gd r4 (ok_nm ?_))))
    rw [← hss]
    have ho : oX0 (sst x r.1 14 (zs z)) (zs z) := (r7.2.2.2.2.2.1 14 _ (by omega) sst_s).2.2
    have hq2 : zR (sst x r.1 14 (zs z)) x 12 = some (zs z) := by rw [hss]; exact mst_self _ _ _ _
    refine ok_gd r7.1 (ok_nm ?_)
    rw [hq2]
    refine ok_gd ho ?_
    have hA' : CF (tiI D.1) r.2 (x + 24) D.2.1 := hc.2.1.fr (fun k hk => r5 _ (by omega))
    refine ok_bind (cp_s hA' (Or.inr (by omega)) hg.1.1 hf.1 hf.2.1 hf.2.2) (fun I1 hI1 => ok_nm (ok_gd ho ?_))
    have hct : CT I1 t D.1 := hc.1.fr (fun k hk => (hI1.2 _ (by omega)).trans (r5 _ (by omega)))
    refine ok_bind (ta_c (n := 864) hg.1 (Or.inl (by omega)) (by omega) hct hI1.1 hg.2.1) (fun p hp => ok_nm (ok_gd ho (ok_some ?_)))
    obtain ⟨p1, p2, p3⟩ := hp
    obtain ⟨w1, w2⟩ := wb_e (a := zs z) (I1 := I1) (I2 := p.2) hz hc r7 (fun s hs => r8 s (by omega) (by omega)) h5 (fun s b hs hb => Or.inl (hz.2.2.2.2.2.1 s b (by omega) hb).2.1) (fun b hb _ => (hI1.2 b (by omega)).trans (r5 b hb)) p3
    exact ⟨p2.2.2.2.2.2.2.2.2.1, r7, by show zs z ≤ zs r.1; omega, w1, w2⟩
  | some a =>
    have ha := hz.2.2.2.2.2.1 14 a (by omega) (hsl.trans hq)
    refine ok_gd ha.2.2 (ok_nm (ok_gd ha.2.2 ?_))
    refine ok_bind (cp_s hc.2.1 (Or.inr (by omega)) hg.1.1 hf.1 hf.2.1 hf.2.2) (fun I1 hI1 => ok_nm (ok_gd ha.2.2 ?_))
    have hct : CT I1 t D.1 := hc.1.fr (fun k hk => hI1.2 _ (by omega))
    refine ok_bind (ta_c (n := 864) hg.1 (Or.inl (by omega)) (by omega) hct hI1.1 hg.2.1) (fun p hp => ok_nm (ok_gd ha.2.2 (ok_some ?_)))
    obtain ⟨p1, p2, p3⟩ := hp
    obtain ⟨w1, w2⟩ := wb_e (a := a) (I1 := I1) (I2 := p.2) hz hc hz (fun _ _ => rfl) ha.1 (fun s b hs hb => hz.2.2.2.2.2.2 s 14 b a (by omega) (by omega) (by omega) hb (hsl.trans hq)) (fun b _ hb => hI1.2 b hb) p3
    exact ⟨p2.2.2.2.2.2.2.2.2.1, hz, Nat.le_refl _, w1, w2⟩
theorem wb_m {m : Nat} {K : MI} {J : MJ} {D : Dt} (hg : GD D) (hm : MW m K D) : Ok (f_X5_wouldBe m J K) (fun r => r.1 = nI (flC (tk D.1 864 D.2.1)).length ∧ MW m r.2 D ∧ ∀ a, a ≠ m → a ≠ m + 13 → a ≠ m + 17 → r.2 a = K a) := by
  have hf := gf_fit hg.1 hg.2.1
  unfold f_X5_wouldBe
  refine ok_wf ?_
  have hK := hm.thr (v := 0)
  obtain ⟨K1, hK1⟩ : ∃ K1, K1 = mst K m 0 0 := ⟨_, rfl⟩
  rw [← hK1] at hK ⊢
  have e1 : ∀ a, a ≠ m → K1 a = K a := fun a ha => by rw [hK1, mst_row _ _ _ ha]
  refine ok_bs (lp_cp (m + 17) 0 2117 (K1 (m + 13)) (fun k hk => ?_) (fun K' => it_n (nI_nlt (a := 2117) (b := 2117) (by omega) (by omega)) rfl)) ?_
  · refine it_p (nI_lt (b := 2117) hk (by omega)) ?_
    dsimp only
    refine bnd_s (rd_v (v := K1 (m + 13) k) k rfl hk (by omega) (by rw [sr_o (by omega)])) (bnd_s (wr_k k rfl hk (by omega)) ?_)
    rw [Nat.zero_add]
  dsimp only
  obtain ⟨K2, hK2⟩ : ∃ K2, K2 = sr K1 (m + 17) (ffl (K1 (m + 17)) 0 2117 (K1 (m + 13))) := ⟨_, rfl⟩
  rw [← hK2]
  have e2 : ∀ a, a ≠ m + 17 → K2 a = K1 a := fun a ha => by rw [hK2, sr_o ha]
  have s2 : ∀ k, k < 2117 → K2 (m + 17) k = K1 (m + 13) k := fun k hk => by
    rw [hK2, sr_s]
    have := ffl_i (R := K1 (m + 17)) (off := 0) (n := 2117) (g := K1 (m + 13)) hk
    rw [Nat.zero_add] at this
    exact this
  refine ok_bind (ta_m (J := J) (n := 1000) hg.1 hg.1.1 (by omega) (hK.1.fr (fun r hr => e2 _ (by omega))) (by rw [e2 _ (by omega)]; exact hK.2.1) hg.2.1) (fun p hp => ?_)
  obtain ⟨p1, p2, p3⟩ := hp
  have hge : tk D.1 1000 D.2.1 = tk D.1 864 D.2.1 := by
    have := hf.1
    rw [tk_ge 1000 _ (by omega), tk_ge 864 _ (by omega)]
  rw [hge] at p2
  refine ok_bs (rd_v 2100 rfl (by omega) (by omega) p2.2.2.2.2.2.2.2.2.1) ?_
  have s3 : ∀ k, k < 2117 → p.2 (m + 17) k = K1 (m + 13) k := fun k hk => by rw [p3 _ (by omega)]; exact s2 k hk
  refine ok_bs (lp_cp (m + 13) 0 2117 (K1 (m + 13)) (fun k hk => ?_) (fun K' => it_n (nI_nlt (a := 2117) (b := 2117) (by omega) (by omega)) rfl)) (ok_some ?_)
  · refine it_p (nI_lt (b := 2117) hk (by omega)) ?_
    dsimp only
    refine bnd_s (rd_v (v := K1 (m + 13) k) k rfl hk (by omega) (by rw [sr_o (by omega)]; exact s3 k hk)) (bnd_s (wr_k k rfl hk (by omega)) ?_)
    rw [Nat.zero_add]
  · dsimp only
    have e4 : ∀ a, a ≠ m + 13 → a ≠ m + 17 → sr p.2 (m + 13) (ffl (p.2 (m + 13)) 0 2117 (K1 (m + 13))) a = K1 a := fun a h1 h2 => by rw [sr_o h1, p3 a h1, e2 a h2]
    refine ⟨rfl, ?_, fun a h1 h2 h3 => (e4 a h2 h3).trans (e1 a h1)⟩
    obtain ⟨k1, k2, k3, k4⟩ := hK
    refine ⟨k1.fr (fun r hr => e4 _ (by omega) (by omega)), ?_, k3.fr (by rw [e4 m (by omega) (by omega)]) (e4 _ (by omega) (by omega)), ?_⟩
    · rw [sr_s]
      refine k2.cg (fun k hk => ?_) hg.1.1 (by have := hf.1; omega) hf.2.1 hf.2.2
      have := ffl_i (R := p.2 (m + 13)) (off := 0) (n := 2117) (g := K1 (m + 13)) hk
      rw [Nat.zero_add] at this
      exact this
    · unfold MU at k4 ⊢
      rw [e4 m (by omega) (by omega), e4 _ (by omega) (by omega), e4 _ (by omega) (by omega), e4 _ (by omega) (by omega)]
      exact k4
theorem case_23 {x L : Nat} {xs : Nat → Int32} : CaseOk (Inv x) L (fun t u i z J I => f_Lc_23 x t u (x + 46) L xs i z J I) := by
  rintro t u z J I k ⟨D, hg, hz, hc, hm⟩ hk
  obtain ⟨⟨v, z', I1⟩, e1, a1, a2, a3, a4, a5⟩ := wb_c hg hz hc
  dsimp only at a1 a2 a3 a4 a5
  obtain ⟨⟨w, I2⟩, e2, b1, b2, b3⟩ := wb_m (J := J) hg (hm.cd (I' := I1) (fun a ha => a5 a (by omega)))
  dsimp only at b1 b2 b3
  refine ⟨z', J, I2, t, u, ?_, D, hg, a2, a4.md a2 (fun a ha => b3 a (by omega) (by omega) (by omega)), b2⟩
  show f_Lc_23 x t u (x + 46) L xs (nI (6 * k)) z J I = _
  unfold f_Lc_23
  exact bnd_s e1 (bnd_s (gd_of a3) (bnd_s (gd_of a2.2.1) (bnd_s e2 (if_pos (a1.trans b1.symm)))))
