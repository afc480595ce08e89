/-! acts: remembered first, then done -/
def dA (D : Dt) (A : Fl) : Dt := (D.1, A, D.2.2)
def dU (D : Dt) : Dt := (D.1, D.2.1, D.2.2.1, D.2.2.2.1, (D.2.1 :: D.2.2.2.2.1).take 12, D.2.2.2.2.2)
theorem GD.u {D : Dt} (h : GD D) : GD (dU D) := ⟨h.1, h.2.1, h.2.2.1, fun B hB => by
  have := List.mem_of_mem_take hB
  rcases List.mem_cons.mp this with q | q
  · rw [q]; exact h.2.1
  · exact h.2.2.2.1 B q, h.2.2.2.2⟩
theorem GD.a {D : Dt} {A : Fl} (h : GD D) (g : GF D.1 A) : GD (dA D A) := ⟨h.1, g, h.2.2.1, h.2.2.2.1, h.2.2.2.2⟩
theorem CW.fl {x t u : Nat} {z : Sh} {I I' : MI} {D : Dt} {A : Fl} (h : CW x t z I D) (hz : GZ x t u z) (e : Fo (x + 24) I I') (hA : CF (tiI D.1) I' (x + 24) A) : CW x t z I' (dA D A) := by
  have ht := hz.2.2.2.1
  obtain ⟨h1, h2, h3, h4⟩ := h
  exact ⟨h1.fr (fun r hr => e _ (by omega)), hA, h3.fr (by rw [e x (by omega)]) (e _ (by omega)), h4.fr hz.2.2.2.2.2 (e _ (by omega)) (e _ (by omega)) (fun a ha => e a (by omega))⟩
theorem MW.fl {m : Nat} {K K' : MI} {D : Dt} {A : Fl} (h : MW m K D) (e : ∀ a, a ≠ m + 13 → K' a = K a) (hA : MF (tiI D.1) (K' (m + 13)) A) : MW m K' (dA D A) := by
  obtain ⟨h1, h2, h3, h4⟩ := h
  refine ⟨h1.fr (fun r hr => e _ (by omega)), hA, h3.fr (by rw [e m (by omega)]) (e _ (by omega)), ?_⟩
  unfold MU at h4 ⊢
  rw [e m (by omega), e _ (by omega), e _ (by omega), e _ (by omega)]
  exact h4
theorem rem_a {x t u : Nat} {z : Sh} {I : MI} {D : Dt} (hg : GD D) (hz : GZ x t u z) (hc : CW x t z I D) : Ok (f_X4_remember x t u z I) (fun r => GZ x t u r.1 ∧ zs z ≤ zs r.1 ∧ CW x t r.1 r.2 (dU D) ∧ ∀ b, b < x + 70 → b ≠ x → r.2 b = I b) := by
  obtain ⟨h1, h2, h3, h4⟩ := hc
  have ht := hz.2.2.2.1
  refine (rem_c hz h2 hg.1.1 (gf_fit hg.1 hg.2.1) h4).im (fun r hr => ?_)
  obtain ⟨r1, r2, r3, r4, r5⟩ := hr
  exact ⟨r1, r2, ⟨h1.fr (fun k hk => r4 _ (by omega) (by omega)), h2.fr (fun k hk => r4 _ (by omega) (by omega)), h3.fr (r5 1 (by omega) (by omega)) (r4 _ (by omega) (by omega)), r3⟩, r4⟩
theorem kp_a {m : Nat} {K : MI} {J : MJ} {D : Dt} (hg : GD D) (hl : D.2.2.2.2.1.length ≤ 12) (hm : MW m K D) : Ok (f_X5_keeps m J K) (fun K' => MW m K' (dU D) ∧ ∀ b, b ≠ m → b ≠ m + 14 → K' b = K b) := by
  obtain ⟨h1, h2, h3, h4⟩ := hm
  refine (kp_m (J := J) h2 hg.1.1 (gf_fit hg.1 hg.2.1) (fun B hB => gf_fit hg.1 (hg.2.2.2.1 B hB)) h4 hl).im (fun K' hK' => ?_)
  obtain ⟨k1, k2, k3⟩ := hK'
  refine ⟨⟨h1.fr (fun r hr => k2 _ (by omega) (by omega)), ?_, h3.fr (k3 2 (by omega)) (k2 _ (by omega) (by omega)), k1⟩, k2⟩
  show MF (tiI D.1) (K' (m + 13)) D.2.1
  rw [k2 _ (by omega) (by omega)]
  exact h2
theorem w_1n (q : Int32) (n : Nat) (hn : n < 2 ^ 31) : (f_X5_within q.toInt64 1 (nI n).toInt64 = some 1 ∧ ∃ k, 1 ≤ k ∧ k ≤ n ∧ q = nI k) ∨ (f_X5_within q.toInt64 1 (nI n).toInt64 = some 0 ∧ (q < 1 ∨ nI n < q)) := by
  rw [show (1 : Int64) = (1 : Int32).toInt64 by decide, wi_32]
  by_cases h1 : q < 1
  · rw [if_pos h1]
    exact Or.inr ⟨rfl, Or.inl h1⟩
  · rw [if_neg h1]
    by_cases h2 : nI n < q
    · rw [if_pos h2]
      exact Or.inr ⟨rfl, Or.inr h2⟩
    · rw [if_neg h2]
      refine Or.inl ⟨rfl, ?_⟩
      obtain ⟨j, hj, rfl⟩ := nI_of (x := q) (by grind)
      refine ⟨j, ?_, ?_, rfl⟩
      · have : ¬ nI j < nI 1 := h1
        rw [nI_ltI hj (by omega)] at this
        omega
      · rw [nI_ltI hn hj] at h2
        omega
theorem case_11 {x L : Nat} {xs : Nat → Int32} (hL : L ≤ 3072) : CaseOk (Inv x) L (fun t u i z J I => f_Lc_11 x t u (x + 46) L xs i z J I) := by
  rintro t u z J I k ⟨D, hg, hz, hc, hm⟩ hk
  have r1 := sc_rd (xs := xs) (d := 1) (j := 1) rfl (by omega) hk hL
  have fin : ∀ {z' : Sh} {I1 I2 : MI} {v : Int32}, f_X4_step x t u (xs (6 * k + 1)) z I = some (v, z', I1) → zs z ≤ zs z' → oX5 z' (x + 46) → f_X5_step (x + 46) (xs (6 * k + 1)) J I1 = some (v, I2) → f_Lc_11 x t u (x + 46) L xs (nI (6 * k)) z J I = some (z', J, I2) := by
    intro z' I1 I2 v e1 e2 e3 e4
    unfold f_Lc_11
    exact bnd_s r1 (bnd_s e1 (bnd_s (gd_of e2) (bnd_s (gd_of e3) (bnd_s r1 (bnd_s e4 (if_pos rfl))))))
  obtain ⟨hD8, hB8⟩ := gf_D hg.1 hg.2.1
  have ob : f_X0_onBelt (x + 24) I = some (nI (flB D.2.1).length) := by
    obtain ⟨e1, e2, e3⟩ := hc.2.1.2.2.2.2.2.2.1
    unfold f_X0_onBelt
    rw [e1, e2, nI_sub (by omega)]
    congr 2
    omega
  have hK := hm.thr (v := 0)
  have rB : rd 2117 (mst I (x + 46) 0 0 (x + 46 + 13)) 370 = some (nI (flB D.2.1).length) := rd_v 370 rfl (by omega) (by omega) hK.2.1.2.2.2.2.2.2.1.1
  rcases w_1n (xs (6 * k + 1)) 200 (by omega) with ⟨hw, n, hn1, hn2, hxn⟩ | ⟨hw, hw2⟩
  · rw [hxn] at fin hw
    have n1 : ¬ nI n < 1 := nI_nlt (a := n) (b := 1) hn1 (by omega)
    have n2 : ¬ (200 : Int32) < nI n := nI_nlt (a := 200) (b := n) hn2 (by omega)
    by_cases hB : (flB D.2.1).length = 0
    · have hq : ∀ I', I' = I → f_X5_step (x + 46) (nI n) J I' = some (-1, mst I (x + 46) 0 0) := by
        rintro I' rfl
        unfold f_X5_step
        exact bnd_s rfl (bnd_s hw (it_n (by decide) (bnd_s rB (it_p (by rw [hB]; rfl) rfl))))
      refine ⟨z, J, mst I (x + 46) 0 0, t, u, fin ?_ (Nat.le_refl _) hz.2.1 (hq I rfl), Inv.ask hg hz hc hm⟩
      unfold f_X4_step
      exact it_n n1 (it_n n2 (bnd_s ob (it_p (by rw [hB]; rfl) rfl)))
    · have hB0 : ¬ nI (flB D.2.1).length = 0 := nI_ne0 (by omega) (by omega)
      obtain ⟨⟨z', I1⟩, e1, a1, a2, a3, a4⟩ := rem_a hg hz hc
      dsimp only at a1 a2 a3 a4
      have ht := hz.2.2.2.1
      obtain ⟨⟨v, I2⟩, e2, b1, b2, b3⟩ := ta_c (n := n) hg.1 (show t + 10 ≤ x + 24 ∨ x + 24 + 10 ≤ t by omega) (by omega) a3.1 a3.2.1 hg.2.1
      dsimp only at b1 b2 b3
      have hcI2 : CW x t z' I2 (dA (dU D) (tk D.1 n D.2.1)) := a3.fl a1 b3 b2
      have hCd : Cd x I I2 := fun a ha => (b3 a (by omega)).trans (a4 a (by omega) (by omega))
      have hm2 : MW (x + 46) (mst I2 (x + 46) 0 0) D := (hm.cd hCd).thr
      obtain ⟨K1, e3, k1, k2⟩ := kp_a (J := J) hg hc.2.2.2.2.2.1 hm2
      obtain ⟨⟨w, K2⟩, e4, d1, d2, d3⟩ := ta_m (J := J) (n := n) hg.1 hg.1.1 (by omega) k1.1 k1.2.1 hg.2.1
      dsimp only at d1 d2 d3
      rw [b1] at e2
      rw [d1] at e4
      have rB2 : rd 2117 (mst I2 (x + 46) 0 0 (x + 46 + 13)) 370 = some (nI (flB D.2.1).length) := rd_v 370 rfl (by omega) (by omega) hm2.2.1.2.2.2.2.2.2.1.1
      refine ⟨z', J, K2, t, u, fin (I1 := I2) (v := nI (min n (flB D.2.1).length)) ?_ a2 a1.2.1 ?_, dA (dU D) (tk D.1 n D.2.1), hg.u.a (gf_tk hg.1 n _ hg.2.1), a1, hcI2.md a1 (fun a ha => ((d3 a (by omega)).trans (k2 a (by omega) (by omega))).trans (mst_row _ _ _ (by omega))), k1.fl d3 d2⟩
      · unfold f_X4_step
        exact it_n n1 (it_n n2 (bnd_s ob (it_n hB0 (bnd_s e1 (bnd_s (gd_of a2) (bnd_s (gd_of a1.1) (bnd_s e2 rfl)))))))
      · unfold f_X5_step
        exact bnd_s rfl (bnd_s hw (it_n (by decide) (bnd_s rB2 (it_n hB0 (bnd_s e3 (bnd_s e4 rfl))))))
  · refine ⟨z, J, mst I (x + 46) 0 0, t, u, fin (I1 := I) (v := -1) ?_ (Nat.le_refl _) hz.2.1 ?_, Inv.ask hg hz hc hm⟩
    · unfold f_X4_step
      by_cases h1 : xs (6 * k + 1) < 1
      · exact it_p h1 rfl
      · exact it_n h1 (it_p (hw2.elim (fun q => absurd q h1) id) rfl)
    · unfold f_X5_step
      exact bnd_s rfl (bnd_s hw (it_p rfl rfl))
/-- an order put by -/
def pby (T : Tx) (A : Fl) (o : Nat) : Fl := setD (stt T 865 (lev (setW A o 3) o) (flD A)).1 (stt T 865 (lev (setW A o 3) o) (flD A)).2
theorem gh_by {T : Tx} {A : Fl} {o : Nat} (g : GH T A) (ho : o < 16) (h2 : flW A o = 2) : GH T (lev (setW A o 3) o) := by
  have hH : flH (setW A o 3) o = flH A o := rfl
  have hn := ((g.2.1 o ho).2.2.1).mp h2
  have hoT : o < tiO T := Nat.lt_of_not_le (fun q => by have := (g.2.1 o ho).2.2.2.1 q; omega)
  unfold lev
  rw [hH, if_neg hn]
  have hrel : ∀ c, rel T (setH (setO (setW A o 3) (flH A o - 1) 0) o 0) c = rel T A c := by
    intro c
    unfold rel
    show (if pu (flW A) o 3 (c / 10) = 0 then 0 else tiN T c) = _
    by_cases e : c / 10 = o
    · rw [e, pu_s, if_neg (by omega), if_neg (by omega)]
    · rw [pu_n e]
  obtain ⟨g1, g2, g3, g4, g5, g6, g7, g8, g9, g10⟩ := g
  refine ⟨g1, fun q hq => ?_, fun h hh => ?_, fun c hc => ?_, g5, g6, ?_, ?_, g9, g10⟩
  · show pu (flW A) o 3 q ≤ 4 ∧ pu (flH A) o 0 q ≤ 8 ∧ (pu (flW A) o 3 q = 2 ↔ pu (flH A) o 0 q ≠ 0) ∧ (tiO T ≤ q → pu (flW A) o 3 q = 0) ∧ (pu (flW A) o 3 q = 4 → sm (flA A) (10 * q) 10 = tot T q)
    by_cases e : q = o
    · rw [e, pu_s, pu_s]
      exact ⟨by omega, by omega, by constructor <;> intro w <;> omega, fun w => by omega, fun w => by omega⟩
    · rw [pu_n e, pu_n e]
      exact g2 q hq
  · show pu (flO A) (flH A o - 1) 0 h ≤ 16
    unfold pu
    split
    · omega
    · exact g3 h hh
  · rw [hrel]
    exact g4 c hc
  · show (flC A).length = _
    rw [g7]
    refine sm_eq (fun i _ => ?_)
    unfold dn
    show _ = if pu (flW A) o 3 (0 + i) = 4 then 1 else 0
    by_cases e : 0 + i = o
    · rw [e, pu_s, h2]
      rfl
    · rw [pu_n e]
  · show flT A + (flB A).length + sm (flL A) 0 160 = _
    rw [g8]
    exact sm_eq (fun i _ => (hrel _).symm)
theorem gf_by {T : Tx} {A : Fl} {o : Nat} (hT : GT T) (g : GF T A) (ho : o < 16) (h2 : flW A o = 2) : GF T (pby T A o) ∧ GH T (setD (lev (setW A o 3) o) (flD A)) := by
  have g1 := gh_by g.1 ho h2
  have hD : flD (lev (setW A o 3) o) = flD A := by unfold lev; split <;> rfl
  have g2 : GH T (setD (lev (setW A o 3) o) (flD A)) := by rw [← hD, sd_id]; exact g1
  have := (gf_D hT g).1
  exact ⟨stt_gf hT 865 _ _ (by omega) g2, g2⟩
theorem pb_c {ni f t o : Nat} {I : MI} {T : Tx} {A : Fl} (hT : GT T) (hd : t + 10 ≤ f ∨ f + 10 ≤ t) (c1 : CT I t T) (c2 : CF ni I f A) (g : GF T A) (ho : o < 16) (h2 : flW A o = 2) : Ok (f_X0_putBy f t (nI o) I) (fun r => r.1 = nI (flH A o) - 1 ∧ CF ni r.2 f (pby T A o) ∧ Fo f I r.2) := by
  obtain ⟨b1, b2⟩ := CF.sp.mp c2
  have hn := ((g.1.2.1 o ho).2.2.1).mp h2
  have h8 := (g.1.2.1 o ho).2.1
  have hH : flH (setW A o 3) o = flH A o := rfl
  unfold f_X0_putBy
  refine ok_bs (rd_v o rfl ho (by omega) (b1.2.2.1 o ho)) (ok_wr o rfl ho (by omega) ?_)
  have w1 : CG ni (mst I (f + 2) o 3) f (setW A o 3) := b1.sW (v := 3)
  have hle : lev (setW A o 3) o = setH (setO (setW A o 3) (flH A o - 1) 0) o 0 := by unfold lev; rw [hH, if_neg hn]
  refine ok_bind (P := fun r : Int32 × MI => CG ni r.2 f (lev (setW A o 3) o) ∧ CS r.2 f (flD A) ∧ Fo f I r.2) ?_ (fun r hr => ?_)
  · unfold f_X0_leaveHole
    refine ok_bs (rd_v o rfl ho (by omega) (w1.2.2.1 o ho)) ?_
    refine ok_neg (fun w => hn ((m1_e (by omega)).mp w)) ?_
    rw [hH]
    refine ok_wr (flH A o - 1) (m1_p hn) (by omega) (by omega) (ok_wr o rfl ho (by omega) (ok_some ⟨?_, ?_, ?_⟩))
    · rw [hle]
      exact (w1.sO (v := 0)).sH (v := 0)
    · refine b2.fr ?_ ?_
      · dsimp only
        rw [mst_row _ _ _ (by omega), mst_row _ _ _ (by omega), mst_row _ _ _ (by omega)]
      · dsimp only
        rw [mst_row _ _ _ (by omega), mst_row _ _ _ (by omega), mst_row _ _ _ (by omega)]
    · exact ((Fo.ms (by omega)).tr (Fo.ms (by omega))).tr (Fo.ms (by omega))
  · obtain ⟨r1, r2, r3⟩ := hr
    refine ok_bind (sa_c hT hd (c1.fr (fun k hk => r3 _ (by omega))) r1 r2 (gf_D hT g).1 (gf_by hT g ho h2).2) (fun I' hI' => ok_some ?_)
    exact ⟨rfl, CF.sp.mpr ⟨hI'.1, hI'.2.1⟩, r3.tr hI'.2.2⟩
theorem case_13 {x L : Nat} {xs : Nat → Int32} (hL : L ≤ 3072) : CaseOk (Inv x) L (fun t u i z J I => f_Lc_13 x t u (x + 46) L xs i z J I) := by
  rintro t u z J I k ⟨D, hg, hz, hc, hm⟩ hk
  have r1 := sc_rd (xs := xs) (d := 1) (j := 1) rfl (by omega) hk hL
  have fin : ∀ {z' : Sh} {I1 I2 : MI} {v : Int32}, f_X4_by x t u (xs (6 * k + 1)) z I = some (v, z', I1) → zs z ≤ zs z' → oX5 z' (x + 46) → f_X5_by (x + 46) (xs (6 * k + 1)) J I1 = some (v, I2) → f_Lc_13 x t u (x + 46) L xs (nI (6 * k)) z J I = some (z', J, I2) := by
    intro z' I1 I2 v e1 e2 e3 e4
    unfold f_Lc_13
    exact bnd_s r1 (bnd_s e1 (bnd_s (gd_of e2) (bnd_s (gd_of e3) (bnd_s r1 (bnd_s e4 (if_pos rfl))))))
  have hO := hg.1.2.1
  have hK := hm.thr (v := 0)
  have hp := pk_ix (xs (6 * k + 1)) (n := tiO D.1) (by omega)
  rw [← or_assoc] at hp
  rcases hp with h | ⟨o, ho, hxo⟩
  · refine ⟨z, J, mst I (x + 46) 0 0, t, u, fin (I1 := I) (v := -1) ?_ (Nat.le_refl _) hz.2.1 ?_, Inv.ask hg hz hc hm⟩
    · unfold f_X4_by
      exact bnd_s (co_no hc.1.1.2.1 h) (it_p rfl rfl)
    · unfold f_X5_by
      exact bnd_s rfl (bnd_s (mo_no hK.1.1.2.1 (by omega) h) (it_p rfl rfl))
  rw [hxo] at fin
  have ho16 : o < 16 := by omega
  obtain ⟨w1, w2, w3, w4, w5⟩ := hg.2.1.1.2.1 o ho16
  have rW : rd 16 (I (x + 24 + 2)) (nI o) = some (nI (flW D.2.1 o)) := rd_v o rfl ho16 (by omega) (hc.2.1.2.1 o ho16)
  by_cases h2 : flW D.2.1 o = 2
  · have hn := w3.mp h2
    obtain ⟨⟨z', I1⟩, e1, a1, a2, a3, a4⟩ := rem_a hg hz hc
    dsimp only at a1 a2 a3 a4
    have ht := hz.2.2.2.1
    obtain ⟨⟨v, I2⟩, e2, b1, b2, b3⟩ := pb_c hg.1 (show t + 10 ≤ x + 24 ∨ x + 24 + 10 ≤ t by omega) a3.1 a3.2.1 hg.2.1 ho16 h2
    dsimp only at b1 b2 b3
    have hcI2 : CW x t z' I2 (dA (dU D) (pby D.1 D.2.1 o)) := a3.fl a1 b3 b2
    have hCd : Cd x I I2 := fun a ha => (b3 a (by omega)).trans (a4 a (by omega) (by omega))
    have hm2 : MW (x + 46) (mst I2 (x + 46) 0 0) D := (hm.cd hCd).thr
    obtain ⟨K1, e3, k1, k2⟩ := kp_a (J := J) hg hc.2.2.2.2.2.1 hm2
    obtain ⟨mg, ms⟩ := MF.sp.mp k1.2.1
    have hH : flH (setW D.2.1 o 3) o = flH D.2.1 o := rfl
    have hB8 := (gf_D hg.1 hg.2.1).2
    have hC16 := (gh_len hg.1 hg.2.1.1).2.2
    have rH : ∀ K : MI, K (x + 46 + 13) (346 + o) = nI (flH D.2.1 o) - 1 → rd 2117 (K (x + 46 + 13)) (346 + nI o) = some (nI (flH D.2.1 o) - 1) := fun K h => rd_v (346 + o) (ci_a rfl o) (by omega) (by omega) h
    have n0 : ¬ nI (flH D.2.1 o) - 1 < 0 := fun q => hn ((m1_l (by omega)).mp q)
    -- the reference's hole given back
    obtain ⟨K2, hK2⟩ : ∃ K2, K2 = mst (mst (mst K1 (x + 46 + 13) (362 + (flH D.2.1 o - 1)) (-1)) (x + 46 + 13) (346 + o) (-1)) (x + 46 + 13) (330 + o) 3 := ⟨_, rfl⟩
    have eK2 : ∀ a, a ≠ x + 46 + 13 → K2 a = K1 a := fun a ha => by rw [hK2, mst_row _ _ _ ha, mst_row _ _ _ ha, mst_row _ _ _ ha]
    have hle : lev (setW D.2.1 o 3) o = setW (setH (setO D.2.1 (flH D.2.1 o - 1) 0) o 0) o 3 := by unfold lev; rw [hH, if_neg hn]; rfl
    have mg2 : MG (tiI D.1) (K2 (x + 46 + 13)) (lev (setW D.2.1 o 3) o) := by
      rw [hK2, ms_r, ms_r, ms_r, hle]
      exact ((mg.sO (v := 0) (by omega) hg.1.1 (by show (flB D.2.1).length ≤ 864; omega) hC16).sH (v := 0) ho16 hg.1.1 (by show (flB D.2.1).length ≤ 864; omega) hC16).sW (v := 3) ho16 hg.1.1 (by show (flB D.2.1).length ≤ 864; omega) hC16
    have ms2 : MS (K2 (x + 46 + 13)) (flD D.2.1) := MS.cg ms (fun j h1 h2 => by rw [hK2, ms_r, ms_r, ms_r, pu_n (by omega), pu_n (by omega), pu_n (by omega)]) (gf_D hg.1 hg.2.1).1
    have hby := gf_by hg.1 hg.2.1 ho16 h2
    obtain ⟨K3, e5, s1, s2, s3⟩ := sa_m (J := J) hg.1 hg.1.1 (k1.1.fr (fun r hr => eK2 _ (by omega))) mg2 ms2 hby.2
    have hfr : f_X5_freesHole (x + 46) (nI o) J K1 = some (mst (mst K1 (x + 46 + 13) (362 + (flH D.2.1 o - 1)) (-1)) (x + 46 + 13) (346 + o) (-1)) := by
      unfold f_X5_freesHole
      have rr := rH K1 (mg.2.2.1 o ho16)
      exact bnd_s rr (it_n n0 (bnd_s rr (bnd_s (wr_k (362 + (flH D.2.1 o - 1)) (by rw [m1_p hn]; exact ci_a rfl _) (by omega) (by omega)) (bnd_s (wr_k (346 + o) (ci_a rfl o) (by omega) (by omega)) rfl))))
    rw [b1] at e2
    refine ⟨z', J, K3, t, u, fin (I1 := I2) (v := nI (flH D.2.1 o) - 1) ?_ a2 a1.2.1 ?_, dA (dU D) (pby D.1 D.2.1 o), hg.u.a hby.1, a1, hcI2.md a1 (fun a ha => ((s3 a (by omega)).trans (eK2 a (by omega))).trans ((k2 a (by omega) (by omega)).trans (mst_row _ _ _ (by omega)))), k1.fl (fun a ha => (s3 a ha).trans (eK2 a ha)) (MF.sp.mpr ⟨s1, s2⟩)⟩
    · unfold f_X4_by
      exact bnd_s (co_yes hc.1.1.2.1 (by omega) ho) (it_n (by decide) (bnd_s rW (it_p (by rw [h2]; rfl) (bnd_s e1 (bnd_s (gd_of a2) (bnd_s (gd_of a1.1) (bnd_s e2 rfl)))))))
    · unfold f_X5_by
      refine bnd_s rfl (bnd_s (mo_yes hm2.1.1.2.1 (by omega) ho) (it_n (by decide) (bnd_s (rH _ (hm2.2.1.2.2.1 o ho16)) (it_n n0 (bnd_s e3 (bnd_s (rH K1 (mg.2.2.1 o ho16)) (bnd_s hfr (bnd_s (wr_k (330 + o) (ci_a rfl o) (by omega) (by omega)) ?_))))))))
      rw [← hK2]
      exact bnd_s e5 rfl
  · have hn : flH D.2.1 o = 0 := Classical.byContradiction (fun q => h2 (w3.mpr q))
    refine ⟨z, J, mst I (x + 46) 0 0, t, u, fin (I1 := I) (v := -1) ?_ (Nat.le_refl _) hz.2.1 ?_, Inv.ask hg hz hc hm⟩
    · unfold f_X4_by
      exact bnd_s (co_yes hc.1.1.2.1 (by omega) ho) (it_n (by decide) (bnd_s rW (it_n (fun q => h2 ((nI_eq (b := 2) (by omega) (by omega)).mp q)) rfl)))
    · unfold f_X5_by
      exact bnd_s rfl (bnd_s (mo_yes hK.1.1.2.1 (by omega) ho) (it_n (by decide) (bnd_s (rd_v (346 + o) (ci_a rfl o) (by omega) (by omega) (hK.2.1.2.2.1 o ho16)) (it_p ((m1_l (by omega)).mpr hn) rfl))))
