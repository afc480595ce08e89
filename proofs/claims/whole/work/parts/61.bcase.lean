/-! best: the case -/
theorem w_0n (q : Int32) (n : Nat) (hn : n < 2 ^ 31) : (f_X5_within q.toInt64 0 (nI n).toInt64 = some 1 ∧ ∃ k, k ≤ n ∧ q = nI k) ∨ (f_X5_within q.toInt64 0 (nI n).toInt64 = some 0 ∧ (q < 0 ∨ nI n < q)) := by
  rw [z_64, wi_32]
  by_cases h1 : q < 0
  · rw [if_pos h1]
    exact Or.inr ⟨rfl, Or.inl h1⟩
  · rw [if_neg h1]
    by_cases h2 : nI n < q
    · rw [if_pos h2]
      exact Or.inr ⟨rfl, Or.inr h2⟩
    · rw [if_neg h2]
      refine Or.inl ⟨rfl, ?_⟩
      obtain ⟨j, hj, rfl⟩ := nI_of h1
      refine ⟨j, ?_, rfl⟩
      rw [nI_ltI hn hj] at h2
      omega
theorem q_best {x t u : Nat} {z : Sh} {I : MI} {J : MJ} {D : Dt} (hg : GD D) (hz : GZ x t u z) (hc : CW x t z I D) (hm : MW (x + 46) I D) (q : Int32) : ∃ v I1 K1, f_X4_best x t u q I = some (v, I1) ∧ f_X5_best (x + 46) q J I1 = some (v, K1) ∧ Pl x I I1 ∧ Ms (x + 46) I1 K1 := by
  have ht := hz.2.2.2.1
  obtain ⟨l, I1, K1, a1, a2, a3, a4, a5, a6, a7, a8, a9, a10⟩ := both_a J hg hz hc hm
  have hI := hg.1.1
  have hlen := a1.len
  have hl10 : ∀ i, i ∈ l → i < 10 := fun i hi => by have := ((a1.2 i).mp hi).1; omega
  have e1 : I1 (x + 34) 1 = nI l.length := a3.2.1
  have e2 : K1 (x + 46) 35 = nI l.length := a8.1
  have hw := nw_a (J := J) hg a6
  have neg : ∀ {v : Int32}, (f_X1_make (x + 34) t (x + 24) I).bind (fun r1 => if 6 < (r1 (x + 34) 1) then some (((-2), r1)) else if (r1 (x + 34) 1) = 0 then some (((-1), r1)) else if q < 0 then some (((-1), r1)) else if (r1 (x + 34) 1) < q then some (((-1), r1)) else (f_X1_findBest (x + 34) t r1).bind fun r6 => (if q = 0 then some r6.1 else (rd 6 (r6.2 (x + 34 + 4)) (q - 1)).bind fun v9 => some v9).bind fun (p10 : Int32) => some ((p10, r6.2))) = some (v, I1) → f_X4_best x t u q I = some (v, I1) := fun h => h
  by_cases h6 : 6 < l.length
  · refine ⟨-2, I1, K1, ?_, ?_, a4, a9⟩
    · unfold f_X4_best
      exact bnd_s a2 (it_p (by rw [e1]; exact nI_lt (a := 6) h6 (by omega)) rfl)
    · unfold f_X5_best
      exact bnd_s rfl (bnd_s hw (bnd_s a7 (it_p (by rw [e2]; exact nI_lt (a := 6) h6 (by omega)) rfl)))
  by_cases h0 : l.length = 0
  · refine ⟨-1, I1, K1, ?_, ?_, a4, a9⟩
    · unfold f_X4_best
      exact bnd_s a2 (it_n (by rw [e1]; exact nI_nlt (a := 6) (by omega) (by omega)) (it_p (by rw [e1, h0]; rfl) rfl))
    · unfold f_X5_best
      exact bnd_s rfl (bnd_s hw (bnd_s a7 (it_n (by rw [e2]; exact nI_nlt (a := 6) (by omega) (by omega)) (it_p (by rw [e2, h0]; rfl) rfl))))
  have n6 : ¬ (6 : Int32) < nI l.length := nI_nlt (a := 6) (by omega) (by omega)
  have n0 : ¬ nI l.length = 0 := nI_ne0 (by omega) (by omega)
  rcases w_0n q l.length (by omega) with ⟨hws, n, hn, hqn⟩ | ⟨hws, hw2⟩
  · subst hqn
    have q0 : ¬ nI n < 0 := nI_pos (by omega)
    have q1 : ¬ nI l.length < nI n := nI_nlt hn (by omega)
    obtain ⟨⟨v, I2⟩, f1, b, b1, b2, b3, b4, b5, b6⟩ := fb_c (p := x + 34) (t := t) hg.1 a5 a3 (by omega) (by omega) hl10 (pw_nd a1.1)
    dsimp only at b4 b5 b6
    have hLB : LB l b := ⟨b1, by omega, pw_nd a1.1, b2, b3, hl10⟩
    have hPl : Pl x I I2 := fun a ha => (b6 a (by omega)).trans (a4 a ha)
    have hm2 : MW (x + 46) (mst I2 (x + 46) 0 0) D := (hm.cd (fun a ha => hPl a (by omega))).thr
    obtain ⟨K2, g1, l', g2, g3, g4⟩ := lp_m (J := J) (w := wW D) hm2.1 hm2.2.1 (Nat.le_refl _) hg.1 hg.2.1.1 (wW_16 hg)
    obtain rfl := pw_uq l l' a1.1 g2.1 (fun i => by rw [a1.2, g2.2])
    have e2' : K2 (x + 46) 35 = nI l.length := g3.1
    have hK2 := hm2.ms g4
    obtain ⟨K3, hK3⟩ : ∃ K3, K3 = mst K2 (x + 46) 39 1000 := ⟨_, rfl⟩
    have o3 : Orf (x + 46) K2 K3 := by
      rw [hK3]
      exact ⟨fun a h1 _ _ _ => mst_row _ _ _ h1, fun k hk => mst_ne _ _ (Or.inr hk)⟩
    obtain ⟨K4, f2, r1, r2, r3, r4⟩ := or_m (J := J) (m := x + 46) (A := D.2.1) (w := wW D) (l := l) (b := b) hg.1 (wW_16 hg) hLB b.length 8 [] 0 0 1000 K3 (by omega) (by rw [List.length_nil]; omega) List.nodup_nil (fun i => by rw [Nat.zero_testBit]; simp) (Nat.pow_pos (by omega)) uc_0 (by omega) (fun i hi => by rw [Nat.zero_testBit, Nat.zero_testBit]) (o3.mt hK2.1) (o3.pk g3) (fun k c hk => by simp at hk) (by rw [hK3, mst_self]; rfl) (by omega)
    have hm16 := lst_b (A := D.2.1) (w := wW D) (b := b) hg.1 b.length 0 uc_0
    have hz0 : nds D.1 D.2.1 (wW D) (([] : List Nat).map (fun i => b.getD i 0)) 0 0 = 0 := rfl
    rw [hz0, Nat.zero_max] at r3
    obtain ⟨s1, s2⟩ := r3 (by omega)
    rw [List.map_nil, List.nil_append] at s2
    have hMs : Ms (x + 46) I2 K4 := ((Ms.f (by omega)).tr g4).tr ⟨fun a ha => by rw [r1.1 a (by omega) (by omega) (by omega) (by omega), o3.1 a (by omega) (by omega) (by omega) (by omega)], fun k h1 h2 => by rw [r1.2 k (by omega), o3.2 k (by omega)]⟩
    have f2' : f_X5_orders1 8 (x + 46) (nI (wW D)) 0 0 J K3 = some K4 := f2
    have hw2 := nw_a (J := J) hg hm2
    rw [b4] at f1
    by_cases hn0 : n = 0
    · subst hn0
      refine ⟨nI (lst D.1 D.2.1 (wW D) b b.length 0), I2, K4, ?_, ?_, hPl, hMs⟩
      · unfold f_X4_best
        exact bnd_s a2 (it_n (by rw [e1]; exact n6) (it_n (by rw [e1]; exact n0) (it_n q0 (it_n (by rw [e1]; exact q1) (bnd_s f1 (bnd_s (it_p rfl rfl) rfl))))))
      · unfold f_X5_best
        refine bnd_s rfl (bnd_s hw2 (bnd_s g1 (it_n (by rw [e2']; exact n6) (it_n (by rw [e2']; exact n0) (bnd_s (by rw [e2']; exact hws) (it_n (by decide) (bnd_s rfl ?_)))))))
        rw [← hK3]
        refine bnd_s f2' (bnd_s (it_p rfl rfl) ?_)
        rw [s1]
    · have hgl := gr_l (T := D.1) (A := D.2.1) (w := wW D) (b := b) (lst D.1 D.2.1 (wW D) b b.length 0) b.length 0
      obtain ⟨c, hcc⟩ := ls_get (l := gr D.1 D.2.1 (wW D) b (lst D.1 D.2.1 (wW D) b b.length 0) b.length 0) (j := n - 1) (by omega)
      have t1 := b5 (n - 1) c hcc
      have t2 := s2 (n - 1) (jx l b c) (by rw [List.getElem?_map, hcc]; rfl)
      rw [Nat.zero_add] at t2
      have hcb : c < b.length := by
        have : ∀ k S, uc b.length S = k → lst D.1 D.2.1 (wW D) b k S ≤ lst D.1 D.2.1 (wW D) b b.length 0 → ∀ c, c ∈ gr D.1 D.2.1 (wW D) b (lst D.1 D.2.1 (wW D) b b.length 0) k S → c < b.length := by
          intro k
          induction k with
          | zero => intro S _ _ c hc; simp [gr] at hc
          | succ k ih =>
            intro S hS hl c hc
            obtain ⟨y1, y2, y3⟩ := gr_h (A := D.2.1) (w := wW D) hg.1 hS hl
            rw [gr] at hc
            rcases List.mem_cons.mp hc with q | q
            · rw [q]; exact y1
            · have huc := uc_add y1 y2
              have hle : lst D.1 D.2.1 (wW D) b k (S ||| 2 ^ nE (fun i => !S.testBit i && decide (vl D.1 D.2.1 (wW D) b k S i ≤ lst D.1 D.2.1 (wW D) b b.length 0)) b.length 0) ≤ vl D.1 D.2.1 (wW D) b k S (nE (fun i => !S.testBit i && decide (vl D.1 D.2.1 (wW D) b k S i ≤ lst D.1 D.2.1 (wW D) b b.length 0)) b.length 0) := Nat.le_max_right _ _
              exact ih _ (by omega) (Nat.le_trans hle y3) c q
        exact this b.length 0 uc_0 (Nat.le_refl _) c (List.mem_of_getElem? hcc)
      have hj := hLB.j1 hcb
      have hn1 : ¬ nI n = 0 := nI_ne0 (by omega) (by omega)
      have hm1 : nI n - 1 = nI (n - 1) := m1_p hn0
      refine ⟨nI (b.getD c 0), I2, K4, ?_, ?_, hPl, hMs⟩
      · unfold f_X4_best
        exact bnd_s a2 (it_n (by rw [e1]; exact n6) (it_n (by rw [e1]; exact n0) (it_n q0 (it_n (by rw [e1]; exact q1) (bnd_s f1 (bnd_s (it_n hn1 (bnd_s (rd_v (n - 1) hm1 (by omega) (by omega) t1) rfl)) rfl))))))
      · unfold f_X5_best
        refine bnd_s rfl (bnd_s hw2 (bnd_s g1 (it_n (by rw [e2']; exact n6) (it_n (by rw [e2']; exact n0) (bnd_s (by rw [e2']; exact hws) (it_n (by decide) (bnd_s rfl ?_)))))))
        rw [← hK3]
        have hpk := r1.pk (o3.pk g3)
        have t3 := hpk.2.1 _ _ (gD_i hj.1)
        rw [Nat.zero_add, hj.2] at t3
        exact bnd_s f2' (bnd_s (it_n hn1 (bnd_s (rd_v (n - 1) hm1 (by omega) (by omega) t2) (bnd_s (rd_v _ rfl (by omega) (by omega) t3) rfl))) rfl)
  · refine ⟨-1, I1, K1, ?_, ?_, a4, a9⟩
    · unfold f_X4_best
      refine bnd_s a2 (it_n (by rw [e1]; exact n6) (it_n (by rw [e1]; exact n0) ?_))
      by_cases hq : q < 0
      · exact it_p hq rfl
      · exact it_n hq (it_p (by rw [e1]; exact hw2.elim (fun w => absurd w hq) id) rfl)
    · unfold f_X5_best
      exact bnd_s rfl (bnd_s hw (bnd_s a7 (it_n (by rw [e2]; exact n6) (it_n (by rw [e2]; exact n0) (bnd_s (by rw [e2]; exact hws) (it_p rfl rfl))))))
theorem case_20 {x L : Nat} {xs : Nat → Int32} (hL : L ≤ 3072) : CaseOk (Inv x) L (fun t u i z J I => f_Lc_20 x t u (x + 46) L xs i z J I) := by
  rintro t u z J I k ⟨D, hg, hz, hc, hm⟩ hk
  obtain ⟨v, I1, K1, h1, h2, h3, h4⟩ := q_best (J := J) hg hz hc hm (xs (6 * k + 1))
  have r1 := sc_rd (xs := xs) (d := 1) (j := 1) rfl (by omega) hk hL
  refine ⟨z, J, K1, t, u, ?_, Inv.pl hg hz hc hm h3 h4⟩
  show f_Lc_20 x t u (x + 46) L xs (nI (6 * k)) z J I = _
  unfold f_Lc_20
  exact bnd_s r1 (bnd_s h1 (bnd_s r1 (bnd_s h2 (if_pos rfl))))
