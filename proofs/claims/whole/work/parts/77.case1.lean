/-! case 1 -/
theorem slt_st {x b k : Nat} {z : Sh} {v : Option Nat} (h1 : b ≠ x + 43) (h2 : b ≠ x + 44) (h3 : b = x → k ≠ 12) (s : Nat) : slt x (zSt z b k v) s = slt x z s := by
  have e1 : zR (zSt z b k v) (x + 43) = zR z (x + 43) := mst_row _ _ _ (fun q => h1 q.symm)
  have e2 : zR (zSt z b k v) (x + 44) = zR z (x + 44) := mst_row _ _ _ (fun q => h2 q.symm)
  have e3 : zR (zSt z b k v) x 12 = zR z x 12 := mst_ne _ _ (by
    by_cases q : b = x
    · exact Or.inr (fun r => h3 q r.symm)
    · exact Or.inl (fun r => q r.symm))
  unfold slt
  rw [e1, e2, e3]
theorem CU.zc {x ni : Nat} {z z' : Sh} {I : MI} {Us : List Fl} {Ks : Nat → Option Fl} (h : CU x ni z I Us Ks) (e : ∀ s, slt x z' s = slt x z s) : CU x ni z' I Us Ks := by
  unfold CU at *
  simp only [e]
  exact h
theorem tp_b {N : Nat} {tp : Nat → Int32} (h : ∀ k, k < N → (tp k).toInt8.toInt32 = tp k) : ∃ bt : Nat → Nat, ∀ k, k < N → bt k < 256 ∧ tp k = b8 (bt k) := by
  refine ⟨fun k => (tp k).toInt8.toBitVec.toNat, fun k hk => ⟨(tp k).toInt8.toBitVec.isLt, ?_⟩⟩
  have : Int8.ofNat (tp k).toInt8.toBitVec.toNat = (tp k).toInt8 := Int8.toBitVec_inj.mp (by show BitVec.ofNat 8 _ = _; simp)
  unfold b8
  rw [this, h k hk]
theorem case_1 {x L : Nat} {xs : Nat → Int32} (hL : L ≤ 3072) : CaseOk (Inv x) L (fun t u i z J I => f_Lc_1 x t u (x + 46) L xs i z J I) := by
  rintro t u z J I k ⟨⟨T, A, N, tp, Us, Ks⟩, hg, hz, hc, hm⟩ hk
  have r1 := sc_rd (xs := xs) (d := 1) (j := 1) rfl (by omega) hk hL
  have ht := hz.2.2.2.1
  obtain ⟨g1, g2, ⟨g3, g4, g5⟩, g6, g7⟩ := id hg
  obtain ⟨c1, c2, c3, c4⟩ := id hc
  obtain ⟨m1, m2, m3, m4⟩ := id hm
  dsimp only at g1 g2 g3 g4 g5 g6 g7 c1 c2 c3 c4 m1 m2 m3 m4
  suffices H : Ok (f_Lc_1 x t u (x + 46) L xs (nI (6 * k)) z J I) (fun r => ∃ t' u', Inv x t' u' r.1 r.2.1 r.2.2) by
    obtain ⟨⟨a, b, c⟩, hr, t', u', hi⟩ := H
    exact ⟨a, b, c, t', u', hr, hi⟩
  unfold f_Lc_1
  refine ok_bs r1 ?_
  rcases w_0n (xs (6 * k + 1)) N (by omega) with ⟨hw, n, hn, hx⟩ | ⟨hw, hx⟩
  · rw [hx] at r1
    rw [hx]
    obtain ⟨bt, hbt⟩ := tp_b g5
    have hTc : Tape I (x + 1) n bt := ⟨by omega, fun k hk => ⟨(hbt k (by omega)).1, (c3.2 k (by omega)).trans (hbt k (by omega)).2⟩⟩
    have hTm : Tape I (x + 46 + 1) n bt := ⟨by omega, fun k hk => ⟨(hbt k (by omega)).1, (m3.2 k (by omega)).trans (hbt k (by omega)).2⟩⟩
    refine ok_bind (wa_cc hz c3.1 hn g3 hTc) (fun r hr => ?_)
    obtain ⟨v, z1, I1⟩ := r
    obtain ⟨q1, q2, q3, q4⟩ := hr
    dsimp only at q1 q2 q3 q4
    have hm1 : MW (x + 46) I1 (T, A, N, tp, Us, Ks) := hm.cd (fun a ha => q1 a (by omega))
    obtain ⟨n1, n2, n3, n4⟩ := hm1
    dsimp only at n1 n2 n3 n4
    have hT1 : Tape I1 (x + 46 + 1) n bt := hTm.fr (q1 _ (by omega))
    cases hp : pAll bt n with
    | inl F =>
      rw [hp] at q4
      obtain ⟨w1, rfl, w3, w4⟩ := q4
      have hz1 := gz_r (v := some (x + 1)) hz
      refine ok_gd (Nat.le_refl _) (ok_gd hz1.2.1 (ok_bs r1 (ok_bind (wa_mm (J := J) (E := fun _ => 0) n3.1 hn g3 hT1 (fun y hy => by rw [hp] at hy; cases hy)) (fun s hs => ?_))))
      obtain ⟨b1, b2, b3⟩ := hs
      rw [hp] at b3
      obtain ⟨d1, d2, d3, d4⟩ := b3
      have fr : ∀ b, b < x + 46 ∨ x + 70 ≤ b → b ≠ x → b ≠ x + 2 → b < u ∨ u + 10 ≤ b → s.2.2 b = I b := fun b h0 h1 h2 h3 => (b1 b (by omega)).trans (w4 b h1 h2 h3)
      have fx : s.2.2 x = I1 x := b1 x (by omega)
      refine ok_pos (w1.trans d1.symm) (ok_some ⟨t, u, (T, A, 0, tp, Us, Ks), ⟨g1, g2, ⟨Nat.zero_le _, rfl, fun k hk => absurd hk (Nat.not_lt_zero _)⟩, g6, g7⟩, hz1, ⟨c1.fr (fun r hr => fr _ (by omega) (by omega) (by omega) (by omega)), c2.fr (fun r hr => fr _ (by omega) (by omega) (by omega) (by omega)), ⟨?_, fun k hk => absurd hk (Nat.not_lt_zero _)⟩, ?_⟩, d4 T g1.1 g1.2.1 n1, ?_, ⟨b2, fun k hk => absurd hk (Nat.not_lt_zero _)⟩, ?_⟩)
      · dsimp only
        rw [fx]
        exact q2
      · dsimp only
        exact CU.zc (c4.fr2 hz.2.2.2.2.2 (by rw [fx]; exact q3) (by rw [fx]; exact w3) (fr _ (by omega) (by omega) (by omega) (by omega)) (fun a ha => fr a (by omega) (by omega) (by omega) (by omega))) (slt_st (by omega) (by omega) (by omega))
      · dsimp only
        rw [d3 13 (by omega)]
        exact n2
      · dsimp only
        unfold MU at n4 ⊢
        rw [d3 14 (by omega), d3 15 (by omega), d3 16 (by omega), d2]
        exact n4
    | inr y =>
      rw [hp] at q4
      obtain ⟨w1, rfl, gB, gN, wC, wF, w9, w0, w01⟩ := q4
      have hz2 := (gz_w (gz_r (v := some (x + 1)) hz)).2.2
      obtain ⟨E, hE, hCT⟩ := ct_b wC
      refine ok_gd (Nat.le_refl _) (ok_gd hz2.2.1 (ok_bs r1 (ok_bind (wa_mm (J := J) (E := E) n3.1 hn g3 hT1 (fun y' hy => by rw [hp] at hy; obtain rfl := Sum.inr.inj hy; exact gB)) (fun s hs => ?_))))
      obtain ⟨b1, b2, b3⟩ := hs
      rw [hp] at b3
      obtain ⟨d1, d2, d3, d4, d5, d6⟩ := b3
      have fx : s.2.2 x = I1 x := b1 x (by omega)
      have f44 : s.2.2 (x + 45) = I1 (x + 45) := b1 _ (by omega)
      obtain ⟨⟨p, hp12, h8, _⟩, _⟩ := c4
      have k2 : ∀ {g : Nat → Int32}, g 0 = 0 → g 1 = 0 → ∀ k, k < 2 → g k = 0 := fun {g} h0 h1 k hk => by
        rcases (show k = 0 ∨ k = 1 by omega) with rfl | rfl
        · exact h0
        · exact h1
      refine ok_pos (w1.trans d1.symm) (ok_some ⟨u, t, (tB y.1 E, fl1 (bS y.1), 0, tp, [], fun _ => none), ⟨gt_b gB gN hE, gf_1 (fun i hi => (gB.2.2.2.2.2.1 i hi).2.1), ⟨Nat.zero_le _, rfl, fun k hk => absurd hk (Nat.not_lt_zero _)⟩, fun B hB => (nomatch hB), fun k B _ hB => (nomatch hB)⟩, hz2, ⟨hCT.fr (fun r hr => b1 _ (by omega)), wF.fr (fun r hr => b1 _ (by omega)), ⟨?_, fun k hk => absurd hk (Nat.not_lt_zero _)⟩, ⟨p, hp12, ?_, fun j B hj => (nomatch hj)⟩, ?_, Nat.zero_le _, fun k hk => ⟨fun _ => ?_, fun B hB => (nomatch hB)⟩⟩, d2, d3, ⟨b2, fun k hk => absurd hk (Nat.not_lt_zero _)⟩, fun j B hj => (nomatch hj), d4, fun k hk => ⟨fun _ => k2 d5 d6 k hk, fun B hB => (nomatch hB)⟩⟩)
      · dsimp only
        rw [fx]
        exact q2
      · dsimp only
        rw [fx, q3]
        exact h8
      · dsimp only
        rw [fx]
        exact w9
      · dsimp only
        rw [f44]
        exact k2 w0 w01 k hk
  · have e1 : f_X4_wall x t u (xs (6 * k + 1)) z I = some (-1, z, I) := by
      unfold f_X4_wall
      by_cases q : xs (6 * k + 1) < 0
      · exact if_pos q
      · refine it_n q (it_p ?_ rfl)
        rw [c3.1]
        rcases hx with hx | hx
        · exact absurd hx q
        · exact hx
    have e2 : f_X5_wall (x + 46) (xs (6 * k + 1)) J I = some (-1, J, mst I (x + 46) 0 0) := by
      unfold f_X5_wall
      refine bnd_s rfl (bnd_s (a := 0) ?_ (it_p rfl rfl))
      rw [mst_ne _ _ (Or.inr (by omega)), m3.1]
      exact hw
    refine ok_bs e1 (ok_gd (Nat.le_refl _) (ok_gd hz.2.1 (ok_bs r1 (ok_bs e2 (ok_pos rfl (ok_some ⟨t, u, Inv.ask hg hz hc hm⟩))))))
