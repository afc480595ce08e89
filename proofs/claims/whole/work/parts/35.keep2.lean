/-! keep -/
theorem ke_e {x t u ni k a : Nat} {z z' : Sh} {I I1 : MI} {A : Fl} {Us : List Fl} {Ks : Nat → Option Fl} (hz : GZ x t u z) (hU : CU x ni z I Us Ks) (hk : k < 2)
    (hz' : GZ x t u z') (hs : zs z ≤ zs z') (ha : slt x z' (12 + k) = some a) (ho : ∀ s, s < 15 → s ≠ 12 + k → slt x z' s = slt x z s) (hA : CF ni I1 a A) (hd : ∀ b, b < zs z → b < a ∨ a + 10 ≤ b → I1 b = I b) (hdj : ∀ s b, s < 15 → s ≠ 12 + k → slt x z s = some b → b + 10 ≤ a ∨ a + 10 ≤ b) (hax : x + 70 ≤ a) :
    Ok ((wr 2 I1 (x + 45) (nI k) 1).bind fun I18 => some (((1 : Int32), z', I18))) (fun r => r.1 = 1 ∧ GZ x t u r.2.1 ∧ zs z ≤ zs r.2.1 ∧ CU x ni r.2.1 r.2.2 Us (pu Ks k (some A)) ∧ ∀ b, b < x + 70 → b ≠ x + 45 → r.2.2 b = I b) := by
  have h5 := hz.2.2.2.2.1
  obtain ⟨⟨p, hp, h8, hUs⟩, h9, hl, hK⟩ := hU
  refine ok_wr k rfl hk (by omega) (ok_some ?_)
  have fr : ∀ b, b ≠ x + 45 → mst I1 (x + 45) k 1 b = I1 b := fun b hb => mst_row _ _ _ hb
  refine ⟨rfl, hz', hs, ⟨⟨p, hp, ?_, fun j B hj => ?_⟩, ?_, hl, fun k' hk' => ?_⟩, fun b hb hx => ?_⟩
  · dsimp only
    rw [fr _ (by omega), hd _ (by omega) (by omega)]
    exact h8
  · obtain ⟨b, hb, hB⟩ := hUs j B hj
    have hb2 := hz.2.2.2.2.2.1 _ b (by omega) hb
    have hdis := hdj _ b (by omega) (by omega) hb
    refine ⟨b, ?_, hB.fr (fun r hr => ?_)⟩
    · dsimp only
      rw [ho _ (by omega) (by omega)]
      exact hb
    · dsimp only
      rw [fr _ (by omega), hd _ (by omega) (by omega)]
  · dsimp only
    rw [fr _ (by omega), hd _ (by omega) (by omega)]
    exact h9
  · dsimp only
    by_cases e : k' = k
    · subst e
      rw [pu_s]
      refine ⟨fun q => (nomatch q), fun B hB => ⟨mst_self _ _ _ _, a, ha, ?_⟩⟩
      obtain rfl := Option.some.inj hB
      exact hA.fr (fun r hr => fr _ (by omega))
    · rw [pu_n e]
      obtain ⟨k1, k2⟩ := hK k' hk'
      refine ⟨fun q => ?_, fun B hB => ?_⟩
      · rw [mst_ne _ _ (Or.inr e), hd _ (by omega) (by omega)]
        exact k1 q
      · obtain ⟨hb1, b, hb, hB2⟩ := k2 B hB
        have hb2 := hz.2.2.2.2.2.1 _ b (by omega) hb
        have hdis := hdj _ b (by omega) (by omega) hb
        refine ⟨by rw [mst_ne _ _ (Or.inr e), hd _ (by omega) (by omega)]; exact hb1, b, ?_, hB2.fr (fun r hr => ?_)⟩
        · rw [ho _ (by omega) (by omega)]
          exact hb
        · rw [fr _ (by omega), hd _ (by omega) (by omega)]
  · dsimp only
    rw [fr _ hx, hd _ (by omega) (by omega)]
theorem ke_c {x t u ni k : Nat} {z : Sh} {I : MI} {A : Fl} {Us : List Fl} {Ks : Nat → Option Fl} (hz : GZ x t u z) (hA : CF ni I (x + 24) A) (hi : ni ≤ 10) (hf : fit A) (hU : CU x ni z I Us Ks) (hk : k < 2) : Ok (f_X4_keep x t u (nI k) 0 z I) (fun r => r.1 = 1 ∧ GZ x t u r.2.1 ∧ zs z ≤ zs r.2.1 ∧ CU x ni r.2.1 r.2.2 Us (pu Ks k (some A)) ∧ ∀ b, b < x + 70 → b ≠ x + 45 → r.2.2 b = I b) := by
  have h5 := hz.2.2.2.2.1
  unfold f_X4_keep
  have hslt : slt x z (12 + k) = zR z (x + 44) k := by unfold slt; rw [if_neg (by omega), if_pos (by omega), show 12 + k - 12 = k by omega]
  refine ok_neg (nI_pos (by omega)) (ok_pos (nI_lt (b := 2) hk (by omega)) (ok_pos rfl ?_))
  refine ok_rd k rfl hk (by omega) ?_
  cases hq : zR z (x + 44) k with
  | none =>
    obtain ⟨m1, m2⟩ := mk_fl (s := 12 + k) (I := I) hz (by omega)
    refine ok_nm (ok_nm (ok_gd m1 (ok_bind m2 (fun r hr => ?_))))
    obtain ⟨r1, r2, r3, r4, r5, r6, r7, r8⟩ := hr
    have hss : sst x r.1 (12 + k) (zs z) = zSt r.1 (x + 44) k (some (zs z)) := by unfold sst; rw [if_neg (by omega), if_pos (by omega), if_neg (by omega), if_pos (by omega), show 12 + k - 12 = k by omega]
    refine ok_gd (by show zs z + 1 ≤ _; omega) (ok_gd r2 (ok_gd r3 (ok_bs (wz_k rfl hk (by omega)) ?_)))
    rw [← hss]
    have ho : oX0 (sst x r.1 (12 + k) (zs z)) (zs z) := (r7.2.2.2.2.2.1 (12 + k) _ (by omega) sst_s).2.2
    refine ok_gd r7.1 (ok_gd ⟨r3.1, r3.2.1, r3.2.2⟩ (ok_gd ho ?_))
    have hA' : CF ni r.2 (x + 24) A := hA.fr (fun k hk => r5 _ (by omega))
    refine ok_bind (cp_s hA' (Or.inr (by omega)) hi hf.1 hf.2.1 hf.2.2) (fun I1 hI1 => ?_)
    exact ke_e hz hU hk r7 (by show zs z ≤ zs r.1; omega) sst_s r8 hI1.1 (fun b hb _ => (hI1.2 b (by omega)).trans (r5 b hb)) (fun s b hs _ hb => Or.inl (hz.2.2.2.2.2.1 s b hs hb).2.1) h5
  | some a =>
    have ha := hz.2.2.2.2.2.1 (12 + k) a (by omega) (hslt.trans hq)
    refine ok_gd ha.2.2 ?_
    refine ok_bind (cp_s hA (Or.inr (by omega)) hi hf.1 hf.2.1 hf.2.2) (fun I1 hI1 => ?_)
    exact ke_e hz hU hk hz (Nat.le_refl _) (hslt.trans hq) (fun _ _ _ => rfl) hI1.1 (fun b _ hb => hI1.2 b hb) (fun s b hs hn hb => hz.2.2.2.2.2.2 s (12 + k) b a hs (by omega) hn hb (hslt.trans hq)) ha.1
theorem gb_c {x t u ni k : Nat} {z : Sh} {I : MI} {Us : List Fl} {Ks : Nat → Option Fl} (hz : GZ x t u z) (hi : ni ≤ 10) (hU : CU x ni z I Us Ks) (hk : k < 2) : (Ks k = none → f_X4_keep x t u (nI k) 1 z I = some (0, z, I)) ∧ ∀ B, Ks k = some B → fit B → Ok (f_X4_keep x t u (nI k) 1 z I) (fun r => r.1 = 1 ∧ r.2.1 = z ∧ CF ni r.2.2 (x + 24) B ∧ CU x ni z r.2.2 [] Ks ∧ (∀ b, b < x + 24 ∨ x + 34 ≤ b → b ≠ x → r.2.2 b = I b) ∧ ∀ k, k ≠ 9 → r.2.2 x k = I x k) := by
  obtain ⟨⟨p, hp, h8, hUs⟩, h9, hl, hK⟩ := hU
  have hslt : slt x z (12 + k) = zR z (x + 44) k := by unfold slt; rw [if_neg (by omega), if_pos (by omega), show 12 + k - 12 = k by omega]
  refine ⟨fun hn => ?_, fun B hB hf => ?_⟩
  · have h0 := (hK k hk).1 hn
    unfold f_X4_keep
    refine it_n (nI_pos (by omega)) (it_p (nI_lt (b := 2) hk (by omega)) (it_n (by decide) ?_))
    refine bnd_s (a := ((0 : Int32), I)) ?_ rfl
    unfold f_X4_goBackTo
    refine bnd_s (rd_k k rfl hk (by omega)) ?_
    cases hq : zR z (x + 44) k with
    | none => exact bnd_s (rd_v k rfl hk (by omega) h0) (it_p rfl rfl)
    | some a => exact bnd_s (gd_of (hz.2.2.2.2.2.1 (12 + k) a (by omega) (hslt.trans hq)).2.2) (bnd_s (rd_v k rfl hk (by omega) h0) (it_p rfl rfl))
  · obtain ⟨h1, a, ha, haB⟩ := (hK k hk).2 B hB
    have ha2 := hz.2.2.2.2.2.1 (12 + k) a (by omega) ha
    unfold f_X4_keep
    refine ok_neg (nI_pos (by omega)) (ok_pos (nI_lt (b := 2) hk (by omega)) (ok_neg (by decide) ?_))
    refine ok_bind (P := fun r : Int32 × MI => r.1 = 1 ∧ CF ni r.2 (x + 24) B ∧ CU x ni z r.2 [] Ks ∧ (∀ b, b < x + 24 ∨ x + 34 ≤ b → b ≠ x → r.2 b = I b) ∧ ∀ k, k ≠ 9 → r.2 x k = I x k) ?_ (fun r hr => ?_)
    · unfold f_X4_goBackTo
      refine ok_bs (a := some a) (rd_v k rfl hk (by omega) (hslt.symm.trans ha)) ?_
      refine ok_gd ha2.2.2 (ok_bs (rd_v k rfl hk (by omega) h1) (ok_neg (by decide) ?_))
      refine ok_bind (cp_s haB (Or.inl (by omega)) hi hf.1 hf.2.1 hf.2.2) (fun I1 hI1 => ok_wf (ok_some ?_))
      dsimp only
      have eo : ∀ b, b ≠ x → b < x + 24 ∨ x + 34 ≤ b → mst I1 x 9 0 b = I b := fun b h1 h2 => by rw [mst_row _ _ _ h1, hI1.2 b (by omega)]
      refine ⟨rfl, hI1.1.fr (fun r hr => mst_row _ _ _ (by omega)), ⟨⟨p, hp, ?_, fun j C hj => nomatch hj⟩, mst_self _ _ _ _, by simp, fun k hk => ⟨fun q => ?_, fun C hC => ?_⟩⟩, fun b h1 h2 => eo b h2 h1, fun k h2 => ?_⟩
      · rw [mst_ne _ _ (Or.inr (by omega)), hI1.2 x (by omega)]
        exact h8
      · rw [eo _ (by omega) (by omega)]
        exact (hK k hk).1 q
      · obtain ⟨hb1, b, hb, hB2⟩ := (hK k hk).2 C hC
        have hb2 := hz.2.2.2.2.2.1 _ b (by omega) hb
        exact ⟨by rw [eo _ (by omega) (by omega)]; exact hb1, b, hb, hB2.fr (fun r hr => eo _ (by omega) (by omega))⟩
      · rw [mst_ne _ _ (Or.inr h2), hI1.2 x (by omega)]
    · obtain ⟨r1, r2, r3, r4, r5⟩ := hr
      rw [r1]
      exact ok_gb1 (ok_some ⟨rfl, rfl, r2, r3, r4, r5⟩)
theorem w_01k {k : Nat} (hk : k < 2) : f_X5_within (nI k).toInt64 0 1 = some 1 := by
  rw [w_01, if_pos]
  rcases (show k = 0 ∨ k = 1 by omega) with rfl | rfl
  · exact Or.inl rfl
  · exact Or.inr rfl
theorem ke_m {m ni k : Nat} {K : MI} {J : MJ} {A : Fl} {Us : List Fl} {Ks : Nat → Option Fl} (hi : ni ≤ 10) (hf : fit A) (hA : MF ni (K (m + 13)) A) (hfk : ∀ k B, k < 2 → Ks k = some B → fit B) (hU : MU m ni K Us Ks) (hk : k < 2) : Ok (f_X5_keep m (nI k) 0 J K) (fun r => r.1 = 1 ∧ MU m ni r.2 Us (pu Ks k (some A)) ∧ (∀ b, b ≠ m → b ≠ m + 15 → b ≠ m + 16 → r.2 b = K b) ∧ ∀ k, k ≠ 0 → r.2 m k = K m k) := by
  obtain ⟨hUs, h29, hK⟩ := hU
  unfold f_X5_keep
  refine ok_wf (ok_bs (w_01k hk) (ok_neg (by decide) (ok_pos rfl ?_)))
  obtain ⟨K1, hK1⟩ : ∃ K1, K1 = mst K m 0 0 := ⟨_, rfl⟩
  rw [← hK1]
  have ko : ∀ b, b ≠ m → K1 b = K b := fun b hb => by rw [hK1, mst_row _ _ _ hb]
  refine ok_bs (lp_cp (m + 15) (2117 * k) 2117 (K (m + 13)) (fun j hj => ?_) (fun K' => it_n (nI_nlt (a := 2117) (b := 2117) (by omega) (by omega)) rfl)) ?_
  · refine it_p (nI_lt (b := 2117) hj (by omega)) ?_
    dsimp only
    refine bnd_s (it_p rfl (bnd_s (rd_v (v := K (m + 13) j) j rfl hj (by omega) (by rw [sr_o (by omega), ko _ (by omega)])) (bnd_s (wr_k (2117 * k + j) (by rw [show (2117 : Int32) = nI 2117 from rfl, nI_mul, nI_add]) (by omega) (by omega)) rfl))) rfl
  · refine ok_bind (P := fun K2 => K2 = mst (sr K1 (m + 15) (ffl (K1 (m + 15)) (2117 * k) 2117 (K (m + 13)))) (m + 16) k 1) (ok_pos rfl (ok_wr k rfl hk (by omega) (ok_some rfl))) (fun K2 hK2 => ok_some ?_)
    dsimp only
    have eo : ∀ b, b ≠ m → b ≠ m + 15 → b ≠ m + 16 → K2 b = K b := fun b h1 h2 h3 => by rw [hK2, mst_row _ _ _ h3, sr_o h2, ko b h1]
    have em : ∀ k, k ≠ 0 → K2 m k = K m k := fun k hk => by rw [hK2, mst_row _ _ _ (by omega), sr_o (by omega), hK1, mst_ne _ _ (Or.inr hk)]
    refine ⟨rfl, ⟨?_, ?_, fun k' hk' => ?_⟩, eo, em⟩
    · rw [eo _ (by omega) (by omega) (by omega)]
      exact hUs
    · rw [em _ (by omega)]
      exact h29
    · by_cases e : k' = k
      · subst e
        rw [pu_s]
        refine ⟨fun q => (nomatch q), fun B hB => ⟨by rw [hK2, mst_self], ?_⟩⟩
        obtain rfl := Option.some.inj hB
        refine hA.cg (fun j hj => ?_) hi (by have := hf.1; omega) hf.2.1 hf.2.2
        rw [hK2, mst_row _ _ _ (by omega), sr_s]
        exact ffl_i hj
      · rw [pu_n e]
        obtain ⟨k1, k2⟩ := hK k' hk'
        have e16 : K2 (m + 16) k' = K (m + 16) k' := by rw [hK2, mst_ne _ _ (Or.inr e), sr_o (by omega), ko _ (by omega)]
        refine ⟨fun q => by rw [e16]; exact k1 q, fun B hB => ⟨by rw [e16]; exact (k2 B hB).1, ?_⟩⟩
        have hb := hfk k' B hk' hB
        refine (k2 B hB).2.cg (fun j hj => ?_) hi (by have := hb.1; omega) hb.2.1 hb.2.2
        rw [hK2, mst_row _ _ _ (by omega), sr_s, ffl_o (by omega), ko _ (by omega)]
theorem gb_m {m ni k : Nat} {K : MI} {J : MJ} {Us : List Fl} {Ks : Nat → Option Fl} (hi : ni ≤ 10) (hU : MU m ni K Us Ks) (hk : k < 2) : (Ks k = none → f_X5_keep m (nI k) 1 J K = some (0, mst K m 0 0)) ∧ ∀ B, Ks k = some B → fit B → Ok (f_X5_keep m (nI k) 1 J K) (fun r => r.1 = 1 ∧ MF ni (r.2 (m + 13)) B ∧ MU m ni r.2 [] Ks ∧ (∀ b, b ≠ m → b ≠ m + 13 → r.2 b = K b) ∧ ∀ k, k ≠ 0 → k ≠ 29 → r.2 m k = K m k) := by
  obtain ⟨hUs, h29, hK⟩ := hU
  refine ⟨fun hn => ?_, fun B hB hf => ?_⟩
  · have h0 := (hK k hk).1 hn
    unfold f_X5_keep
    exact bnd_s rfl (bnd_s (w_01k hk) (it_n (by decide) (it_n (by decide) (bnd_s (rd_v (v := 0) k rfl hk (by omega) (by rw [mst_row _ _ _ (by omega)]; exact h0)) (it_p rfl rfl)))))
  · obtain ⟨h1, haB⟩ := (hK k hk).2 B hB
    unfold f_X5_keep
    refine ok_wf (ok_bs (w_01k hk) (ok_neg (by decide) (ok_neg (by decide) ?_)))
    refine ok_bs (rd_v (v := 1) k rfl hk (by omega) (by rw [mst_row _ _ _ (by omega)]; exact h1)) (ok_neg (by decide) ?_)
    obtain ⟨K1, hK1⟩ : ∃ K1, K1 = mst K m 0 0 := ⟨_, rfl⟩
    rw [← hK1]
    have ko : ∀ b, b ≠ m → K1 b = K b := fun b hb => by rw [hK1, mst_row _ _ _ hb]
    refine ok_bs (lp_cp (m + 13) 0 2117 (fun j => K (m + 15) (2117 * k + j)) (fun j hj => ?_) (fun K' => it_n (nI_nlt (a := 2117) (b := 2117) (by omega) (by omega)) rfl)) ?_
    · refine it_p (nI_lt (b := 2117) hj (by omega)) ?_
      dsimp only
      refine bnd_s (it_n (by decide) (bnd_s (rd_v (v := K (m + 15) (2117 * k + j)) (2117 * k + j) (by rw [show (2117 : Int32) = nI 2117 from rfl, nI_mul, nI_add]) (by omega) (by omega) (by rw [sr_o (by omega), ko _ (by omega)])) (bnd_s (wr_k j rfl (by omega) (by omega)) rfl))) ?_
      rw [Nat.zero_add]
    · refine ok_bind (P := fun K2 => K2 = mst (sr K1 (m + 13) (ffl (K1 (m + 13)) 0 2117 (fun j => K (m + 15) (2117 * k + j)))) m 29 0) (ok_neg (by decide) (ok_wf (ok_some rfl))) (fun K2 hK2 => ok_some ?_)
      dsimp only
      have eo : ∀ b, b ≠ m → b ≠ m + 13 → K2 b = K b := fun b h1 h2 => by rw [hK2, mst_row _ _ _ h1, sr_o h2, ko b h1]
      refine ⟨rfl, ?_, ⟨fun j C hj => (nomatch hj), by rw [hK2, mst_self]; rfl, ?_⟩, eo, fun k h0 h29 => by rw [hK2, mst_ne _ _ (Or.inr h29), sr_o (by omega), hK1, mst_ne _ _ (Or.inr h0)]⟩
      · rw [hK2, mst_row _ _ _ (by omega), sr_s]
        refine haB.cg (fun j hj => ?_) hi (by have := hf.1; omega) hf.2.1 hf.2.2
        have := ffl_i (R := K1 (m + 13)) (off := 0) (n := 2117) (g := fun j => K (m + 15) (2117 * k + j)) hj
        rw [Nat.zero_add] at this
        exact this
      · rw [eo _ (by omega) (by omega), eo _ (by omega) (by omega)]
        exact hK
theorem case_25 {x L : Nat} {xs : Nat → Int32} (hL : L ≤ 3072) : CaseOk (Inv x) L (fun t u i z J I => f_Lc_25 x t u (x + 46) L xs i z J I) := by
  rintro t u z J I k ⟨⟨T, A, n, tp, Us, Ks⟩, hg, hz, hc, hm⟩ hk
  have r1 := sc_rd (xs := xs) (d := 1) (j := 1) rfl (by omega) hk hL
  have r2 := sc_rd (xs := xs) (d := 2) (j := 2) rfl (by omega) hk hL
  obtain ⟨b, hb1, hb2⟩ : ∃ b : Int32, (b = 0 ∨ b = 1) ∧ (if xs (6 * k + 2) = 0 then some (0 : Int32) else some 1) = some b := by
    by_cases h : xs (6 * k + 2) = 0
    · exact ⟨0, Or.inl rfl, if_pos h⟩
    · exact ⟨1, Or.inr rfl, if_neg h⟩
  have hgz := hz
  -- the law's row once both answers are known
  have fin : ∀ {z' : Sh} {I1 I2 : MI} {v : Int32}, f_X4_keep x t u (xs (6 * k + 1)) b z I = some (v, z', I1) → zs z ≤ zs z' → oX5 z' (x + 46) → f_X5_keep (x + 46) (xs (6 * k + 1)) b J I1 = some (v, I2) → f_Lc_25 x t u (x + 46) L xs (nI (6 * k)) z J I = some (z', J, I2) := by
    intro z' I1 I2 v e1 e2 e3 e4
    unfold f_Lc_25
    exact bnd_s r1 (bnd_s r2 (bnd_s hb2 (bnd_s e1 (bnd_s (gd_of e2) (bnd_s (gd_of e3) (bnd_s r1 (bnd_s r2 (bnd_s hb2 (bnd_s e4 (if_pos rfl))))))))))
  have hp := pk_ix (xs (6 * k + 1)) (n := 2) (by omega)
  rw [← or_assoc] at hp
  rcases hp with h | ⟨j, hj, hxj⟩
  · refine ⟨z, J, mst I (x + 46) 0 0, t, u, fin (z' := z) (I1 := I) (v := 0) ?_ (Nat.le_refl _) hz.2.1 ?_, Inv.ask hg hz hc hm⟩
    · unfold f_X4_keep
      by_cases h0 : xs (6 * k + 1) < 0
      · exact it_p h0 rfl
      · refine it_n h0 (it_n ?_ rfl)
        have : nI 2 ≤ xs (6 * k + 1) := h.elim (fun q => absurd q h0) id
        have e2 : nI 2 = 2 := rfl
        grind
    · unfold f_X5_keep
      have : f_X5_within (xs (6 * k + 1)).toInt64 0 1 = some 0 := wi_no (n := 2) (by omega) h
      exact bnd_s rfl (bnd_s this (it_p rfl rfl))
  rw [hxj] at fin
  obtain ⟨g1, g2, g3, g6, g7⟩ := hg
  obtain ⟨c1, c2, c3, c4⟩ := hc
  obtain ⟨m1, m2, m3, m4⟩ := hm
  dsimp only at g1 g2 g3 g6 g7 c1 c2 c3 c4 m1 m2 m3 m4
  have hf := gf_fit g1 g2
  have ht := hz.2.2.2.1
  have h5 := hz.2.2.2.2.1
  rcases hb1 with rfl | rfl
  · obtain ⟨⟨v, z', I1⟩, e1, a1, a2, a3, a4, a5⟩ := ke_c hz c2 g1.1 hf c4 hj
    dsimp only at a1 a2 a3 a4 a5
    have m2' : MF (tiI T) (I1 (x + 46 + 13)) A := by rw [a5 _ (by omega) (by omega)]; exact m2
    have m4' : MU (x + 46) (tiI T) I1 Us Ks := by
      unfold MU at m4 ⊢
      rw [a5 _ (by omega) (by omega), a5 _ (by omega) (by omega), a5 _ (by omega) (by omega), a5 _ (by omega) (by omega)]
      exact m4
    obtain ⟨⟨w, I2⟩, e2, b1, b2, b3, b4⟩ := ke_m (J := J) g1.1 hf m2' (fun k B hk hB => gf_fit g1 (g7 k B hk hB)) m4' hj
    dsimp only at b1 b2 b3 b4
    have hMd : ∀ b, b < x + 46 ∨ x + 69 ≤ b → I2 b = I1 b := fun b hb => b3 b (by omega) (by omega) (by omega)
    rw [a1] at e1
    rw [b1] at e2
    refine ⟨z', J, I2, t, u, fin e1 a3 a2.2.1 e2, ⟨T, A, n, tp, Us, pu Ks j (some A)⟩, ⟨g1, g2, g3, g6, fun k B hk hB => ?_⟩, a2, ⟨?_, ?_, ?_, ?_⟩, ?_, ?_, ?_, b2⟩
    · dsimp only at hB
      by_cases e : k = j
      · subst e
        rw [pu_s] at hB
        obtain rfl := Option.some.inj hB
        exact g2
      · rw [pu_n e] at hB
        exact g7 k B hk hB
    · exact c1.fr (fun r hr => (hMd _ (by omega)).trans (a5 _ (by omega) (by omega)))
    · exact c2.fr (fun r hr => (hMd _ (by omega)).trans (a5 _ (by omega) (by omega)))
    · exact c3.fr (by rw [hMd _ (by omega), a5 _ (by omega) (by omega)]) ((hMd _ (by omega)).trans (a5 _ (by omega) (by omega)))
    · exact a4.fr a2.2.2.2.2.2 (hMd _ (by omega)) (hMd _ (by omega)) (fun a ha => hMd _ (by omega))
    · exact m1.fr (fun r hr => (b3 _ (by omega) (by omega) (by omega)).trans (a5 _ (by omega) (by omega)))
    · dsimp only
      rw [b3 _ (by omega) (by omega) (by omega)]
      exact m2'
    · exact m3.fr (by rw [b4 2 (by omega), a5 _ (by omega) (by omega)]) ((b3 _ (by omega) (by omega) (by omega)).trans (a5 _ (by omega) (by omega)))
  · obtain ⟨x1, x2⟩ := gb_c hz g1.1 c4 hj
    obtain ⟨y1, y2⟩ := gb_m (J := J) g1.1 m4 hj
    cases hKj : Ks j with
    | none => exact ⟨z, J, mst I (x + 46) 0 0, t, u, fin (x1 hKj) (Nat.le_refl _) hz.2.1 (y1 hKj), Inv.ask (D := (T, A, n, tp, Us, Ks)) ⟨g1, g2, g3, g6, g7⟩ hz ⟨c1, c2, c3, c4⟩ ⟨m1, m2, m3, m4⟩⟩
    | some B =>
      have hB := g7 j B hj hKj
      have hfB := gf_fit g1 hB
      obtain ⟨⟨v, z', I1⟩, e1, a1, a2, a3, a4, a5, a6⟩ := x2 B hKj hfB
      dsimp only at a1 a2 a3 a4 a5 a6
      subst a2
      have m4' : MU (x + 46) (tiI T) I1 Us Ks := by
        unfold MU at m4 ⊢
        rw [a5 _ (by omega) (by omega), a5 _ (by omega) (by omega), a5 _ (by omega) (by omega), a5 _ (by omega) (by omega)]
        exact m4
      obtain ⟨⟨w, I2⟩, e2, b1, b2, b3, b4, b5⟩ := (gb_m (J := J) g1.1 m4' hj).2 B hKj hfB
      dsimp only at b1 b2 b3 b4 b5
      have hMd : ∀ b, b < x + 46 ∨ x + 69 ≤ b → I2 b = I1 b := fun b hb => b4 b (by omega) (by omega)
      rw [a1] at e1
      rw [b1] at e2
      refine ⟨z', J, I2, t, u, fin e1 (Nat.le_refl _) hz.2.1 e2, ⟨T, B, n, tp, [], Ks⟩, ⟨g1, hB, g3, fun C hC => (nomatch hC), g7⟩, hz, ⟨?_, ?_, ?_, ?_⟩, ?_, b2, ?_, b3⟩
      · exact c1.fr (fun r hr => (hMd _ (by omega)).trans (a5 _ (by omega) (by omega)))
      · exact a3.fr (fun r hr => hMd _ (by omega))
      · exact c3.fr (by rw [hMd _ (by omega)]; exact a6 1 (by omega)) ((hMd _ (by omega)).trans (a5 _ (by omega) (by omega)))
      · exact a4.fr hz.2.2.2.2.2 (hMd _ (by omega)) (hMd _ (by omega)) (fun a ha => hMd _ (by omega))
      · exact m1.fr (fun r hr => (b4 _ (by omega) (by omega)).trans (a5 _ (by omega) (by omega)))
      · exact m3.fr (by rw [b5 2 (by omega) (by omega), a5 _ (by omega) (by omega)]) ((b4 _ (by omega) (by omega)).trans (a5 _ (by omega) (by omega)))
