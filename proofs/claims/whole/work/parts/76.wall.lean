/-! case 1: the text -/
/-- the class's wall -/
theorem wa_cc {x t u n N : Nat} {z : Sh} {I : MI} {bt : Nat → Nat} (hz : GZ x t u z) (h1 : I x 1 = nI N) (hn : n ≤ N) (hN : N ≤ 600) (hT : Tape I (x + 1) n bt) : Ok (f_X4_wall x t u (nI n) z I) (fun r => (∀ a, x + 46 ≤ a → r.2.2 a = I a) ∧ r.2.2 x 1 = 0 ∧ r.2.2 x 8 = I x 8 ∧ Sum.elim (fun F => r.1 = -2 - nI F ∧ r.2.1 = zSt z (x + 2) 0 (some (x + 1)) ∧ r.2.2 x 9 = I x 9 ∧ ∀ b, b ≠ x → b ≠ x + 2 → b < u ∨ u + 10 ≤ b → r.2.2 b = I b) (fun y => r.1 = nI y.2 ∧ r.2.1 = zSt (zSt (zSt z (x + 2) 0 (some (x + 1))) x 4 (some t)) x 3 (some u) ∧ GB y.1 ∧ GN y.1 ∧ CBd r.2.2 u y.1 (bO y.1) ∧ CF (bI y.1) r.2.2 (x + 24) (fl1 (bS y.1)) ∧ r.2.2 x 9 = 0 ∧ r.2.2 (x + 45) 0 = 0 ∧ r.2.2 (x + 45) 1 = 0) (pAll bt n)) := by
  have ht := hz.2.2.2.1
  have hz1 := gz_r (v := some (x + 1)) hz
  have hw := gz_w hz1
  obtain ⟨o1, o2, o3, o4, o5, o6⟩ := id hz.1
  have hsz := hz.2.2.2.2.1
  unfold f_X4_wall
  refine ok_neg (nI_pos (by omega)) (ok_neg (by rw [h1]; exact nI_nlt hn (by omega)) (ok_wf (ok_gd ⟨o3.1, o3.2.1, by omega⟩ ?_)))
  refine ok_bind (rd_c (o := x + 2) (a := x + 1) (u := u) (n := n) (bt := bt) (z := z) (I := mst I x 1 0) (by omega) (by omega) (by omega) (hT.fr (mst_row _ _ _ (by omega))) ⟨⟨o3.1, o3.2.1⟩, mst_self _ _ _ _, o2.1, o2.2.1, o2.2.2.1⟩ hz1.1.2.2.2.2.1.1 ⟨o2.1, o2.2.1, o2.2.2.1⟩) (fun r hr => ?_)
  obtain ⟨v, z1, I1⟩ := r
  obtain ⟨r1, r2, r3⟩ := hr
  dsimp only at r1 r2 r3
  subst r1
  refine ok_gd (Nat.le_refl _) (ok_gd hz1.1 ?_)
  have fx : I1 x = mst I x 1 0 x := r2 x (by omega) (by omega)
  have fo : ∀ b, b ≠ x → b ≠ x + 2 → b < u ∨ u + 10 ≤ b → I1 b = I b := fun b h1 h2 h3 => (r2 b h2 h3).trans (mst_row _ _ _ h1)
  cases hp : pAll bt n with
  | inl F =>
    rw [hp] at r3
    obtain ⟨q1, q2, q3⟩ := r3
    refine ok_neg (by dsimp only; rw [q1]; exact nI_ne0 q2 (by omega)) (ok_some ⟨fun a ha => fo a (by omega) (by omega) (by omega), by dsimp only; rw [fx, mst_self], by dsimp only; rw [fx, mst_ne _ _ (Or.inr (by omega))], by dsimp only; rw [q1], rfl, by dsimp only; rw [fx, mst_ne _ _ (Or.inr (by omega))], fo⟩)
  | inr y =>
    rw [hp] at r3
    obtain ⟨q1, q2, q3, q4, q5⟩ := r3
    have hraw : raw (zSt z (x + 2) 0 (some (x + 1))) x 4 := ⟨o1.1, o1.2, by show x < zs z; omega⟩
    refine ok_pos q1 (ok_gd hraw (ok_nm (ok_gd hw.1 (ok_gd hw.2.1 (ok_gd hraw (ok_nm (ok_gd hw.2.2.1 (ok_gd hw.2.2.1.2.2.2.1.1 ?_))))))))
    refine ok_bind (be_c (f := x + 24) (u := u) (ni := bI y.1) (I := I1) (S := bS y.1) (by omega) q4.1 (fun i hi => (q2.2.1 i hi).2.2)) (fun I2 h2 => ?_)
    obtain ⟨g1, g2⟩ := h2
    refine ok_wq (fun I3 h3 => ?_)
    have f3 : ∀ b, b ≠ x → I3 b = I2 b := fun b hb => by rw [h3]; exact mst_row _ _ _ hb
    refine ok_bind (P := fun s : Int32 × MI => (∀ k, k < 2 → s.2 (x + 45) k = 0) ∧ ∀ a, a ≠ x + 45 → s.2 a = I3 a) (ok_up 2 (fun k s => ∃ K', s = (nI k, K') ∧ (∀ c, c < k → K' (x + 45) c = 0) ∧ ∀ a, a ≠ x + 45 → K' a = I3 a) (fun k s hk hs => ?_) (fun s hs => ?_) 0 _ (by omega) ⟨I3, rfl, fun c hc => by omega, fun _ _ => rfl⟩) (fun s hs => ok_some ?_)
    · obtain ⟨K', rfl, p1, p2⟩ := hs
      refine ok_pos (nI_lt (b := 2) hk (by omega)) (ok_wr k rfl hk (by omega) (ok_some ⟨_, by dsimp only; rw [nI_1], fun c hc => ?_, fun a ha => ?_⟩))
      · rw [ms_r]
        by_cases e : c = k
        · rw [e, pu_s]
        · rw [pu_n e]; exact p1 c (by omega)
      · rw [mst_row _ _ _ ha]; exact p2 a ha
    · obtain ⟨K', rfl, p1, p2⟩ := hs
      exact ok_neg (nI_nlt (a := 2) (b := 2) (by omega) (by omega)) (ok_some ⟨p1, p2⟩)
    · obtain ⟨p1, p2⟩ := hs
      have fu : ∀ r, r < 10 → s.2 (u + r) = I1 (u + r) := fun r hr => by rw [p2 _ (by omega), f3 _ (by omega), g2 _ (by omega)]
      have fX : s.2 x = mst (mst I x 1 0) x 9 0 x := by
        rw [p2 _ (by omega), h3]
        funext j
        by_cases e : j = 9
        · rw [e, mst_self, mst_self]
        · rw [mst_ne _ _ (Or.inr e), mst_ne _ _ (Or.inr e), g2 _ (by omega), fx]
      refine ⟨fun a ha => ?_, ?_, ?_, ?_, rfl, q4, q5, q2.fr fu, g1.fr (fun r hr => ?_), ?_, p1 0 (by omega), p1 1 (by omega)⟩
      · dsimp only
        rw [p2 _ (by omega), f3 _ (by omega), g2 _ (by omega), fo _ (by omega) (by omega) (by omega)]
      · dsimp only
        rw [fX, mst_ne _ _ (Or.inr (by omega)), mst_self]
      · dsimp only
        rw [fX, mst_ne _ _ (Or.inr (by omega)), mst_ne _ _ (Or.inr (by omega))]
      · dsimp only
        have := fu 0 (by omega)
        rw [Nat.add_zero] at this
        rw [this]
        exact q3
      · dsimp only
        rw [p2 _ (by omega), f3 _ (by omega)]
      · dsimp only
        rw [fX, mst_self]
/-- the reference's wall -/
theorem wa_mm {m n N : Nat} {K : MI} {J : MJ} {bt : Nat → Nat} {E : Nat → Nat} (h2 : K m 2 = nI N) (hn : n ≤ N) (hN : N ≤ 600) (hT : Tape K (m + 1) n bt) (hG : ∀ y, pAll bt n = .inr y → GB y.1) : Ok (f_X5_wall m (nI n) J K) (fun r => (∀ b, b < m ∨ m + 17 ≤ b → r.2.2 b = K b) ∧ r.2.2 m 2 = 0 ∧ Sum.elim (fun F => r.1 = -2 - nI F ∧ r.2.2 m 29 = K m 29 ∧ (∀ q, 13 ≤ q → r.2.2 (m + q) = K (m + q)) ∧ ∀ T, tiI T ≤ 10 → tiO T ≤ 16 → MT K m T → MT r.2.2 m T) (fun y => r.1 = nI y.2 ∧ MT r.2.2 m (tB y.1 E) ∧ MF (bI y.1) (r.2.2 (m + 13)) (fl1 (bS y.1)) ∧ r.2.2 m 29 = 0 ∧ r.2.2 (m + 16) 0 = 0 ∧ r.2.2 (m + 16) 1 = 0) (pAll bt n)) := by
  have hw : f_X5_within (nI n).toInt64 0 (nI N).toInt64 = some 1 := by
    rcases w_0n (nI n) N (by omega) with ⟨h, _⟩ | ⟨h, h'⟩
    · exact h
    · rcases h' with h' | h'
      · exact absurd h' (nI_pos (by omega))
      · exact absurd h' (nI_nlt hn (by omega))
  unfold f_X5_wall
  refine ok_wq (fun I1 e1 => ok_bs (a := 1) (by rw [e1, mst_ne _ _ (Or.inr (by omega)), h2]; exact hw) (ok_neg i_10 (ok_wq (fun I4 e4 => ok_wq (fun I5 e5 => ok_wq (fun I6 e6 => ok_wq (fun I7 e7 => ok_wq (fun I8 e8 => ?_))))))))
  have fr8 : ∀ b, b ≠ m → I8 b = K b := fun b hb => by rw [e8, mst_row _ _ _ hb, e7, mst_row _ _ _ hb, e6, mst_row _ _ _ hb, e5, mst_row _ _ _ hb, e4, mst_row _ _ _ hb, e1, mst_row _ _ _ hb]
  have a2 : I8 m 2 = 0 := by rw [e8, mst_ne _ _ (Or.inr (by omega)), e7, mst_ne _ _ (Or.inr (by omega)), e6, mst_ne _ _ (Or.inr (by omega)), e5, mst_ne _ _ (Or.inr (by omega)), e4, mst_self]
  have a3 : I8 m 3 = nI n := by rw [e8, mst_ne _ _ (Or.inr (by omega)), e7, mst_ne _ _ (Or.inr (by omega)), e6, mst_ne _ _ (Or.inr (by omega)), e5, mst_self]
  have a5 : I8 m 5 = nI 0 := by rw [e8, mst_ne _ _ (Or.inr (by omega)), e7, mst_ne _ _ (Or.inr (by omega)), e6, mst_self]; rfl
  have a9 : I8 m 9 = 0 := by rw [e8, mst_ne _ _ (Or.inr (by omega)), e7, mst_self]
  have a12 : I8 m 12 = 1 := by rw [e8, mst_self]
  have a29 : I8 m 29 = K m 29 := by rw [e8, mst_ne _ _ (Or.inr (by omega)), e7, mst_ne _ _ (Or.inr (by omega)), e6, mst_ne _ _ (Or.inr (by omega)), e5, mst_ne _ _ (Or.inr (by omega)), e4, mst_ne _ _ (Or.inr (by omega)), e1, mst_ne _ _ (Or.inr (by omega))]
  refine ok_bind (pl_m (m := m) (b := 1) (J := J) (K := I8) (by omega)) (fun I9 h9 => ?_)
  obtain ⟨⟨p2, p3, p4, p5, p6⟩, p12, q12, q26, q0⟩ := h9
  have l9 : Lf m I8 I9 := ⟨fun b hb => q0 b (by omega), fun r h1 h2 => q26 r 0 h1 h2 (by omega), fun k _ => by rw [q0 _ (by omega)], fun k _ => by rw [q0 _ (by omega)], fun k hk => q12 k (by omega), fun j _ => by rw [q0 _ (by omega)]⟩
  refine ok_wq (fun I10 e10 => ok_wq (fun I11 e11 => ?_))
  have l11 : Lf m I8 I11 := by
    rw [e11, e10]
    exact l9.tr ((Lf.f (Or.inl rfl)).tr (Lf.f (Or.inr rfl)))
  have f11 : ∀ b, b ≠ m → I11 b = I9 b := fun b hb => by rw [e11, mst_row _ _ _ hb, e10, mst_row _ _ _ hb]
  have g11 : ∀ j, j ≠ 24 → j ≠ 25 → I11 m j = I8 m j := fun j h1 h2 => by rw [e11, mst_ne _ _ (Or.inr h2), e10, mst_ne _ _ (Or.inr h1), q0 m (by omega)]
  have hB0 : MBd I11 J m B0 := by
    refine ⟨⟨?_, ?_, ?_, ?_, ?_, ?_, ?_, ?_⟩, fun i hi => absurd hi (Nat.not_lt_zero _), fun o ho => absurd ho (Nat.not_lt_zero _), fun c hc => ?_⟩
    · rw [f11 _ (by omega)]; exact p2
    · rw [f11 _ (by omega)]; exact p3
    · rw [f11 _ (by omega)]; exact p4
    · rw [f11 _ (by omega)]; exact p5
    · rw [f11 _ (by omega)]; exact p6
    · rw [e11, mst_ne _ _ (Or.inr (by omega)), e10, mst_self]; rfl
    · rw [e11, mst_self]; rfl
    · rw [g11 _ (by omega) (by omega)]; exact a12
    · rw [f11 _ (by omega)]; exact p12 c hc
  have hT11 : Tape I11 (m + 1) n bt := hT.fr (by rw [f11 _ (by omega), q0 _ (by omega), fr8 _ (by omega)])
  refine ok_bind (st_r (m := m) (J := J) (p := 0) hT11 (by omega) (by rw [g11 _ (by omega) (by omega)]; exact a3) (by rw [g11 _ (by omega) (by omega)]; exact a5) (by rw [g11 _ (by omega) (by omega)]; exact a9)) (fun s hs => ?_)
  obtain ⟨s1, s2, s3, s4, s5⟩ := hs
  have gt := gk_tok (bt := bt) (show 0 ≤ n by omega)
  refine ok_bind (wl_m (m := m) (n := n) (bt := bt) 601 0 s.1 s.2 (tok bt n 0) B0 (by omega) (s3.lf.tp hT11) s1 gt.1 s2 (s3.md hB0) gb_0.1 gb_0.2 (fun q => by have := gt.1.2.2.2.2.2.1 q; omega)) (fun w hw => ?_)
  obtain ⟨w1, ok, J2, K2⟩ := w
  obtain ⟨hl, hs⟩ := hw
  dsimp only at hl hs
  change Sum.elim _ _ (pAll bt n) at hs
  have hL := (l11.tr s3.lf).tr hl
  refine ok_wq (fun K3 e3 => ?_)
  have f3 : ∀ b, b ≠ m → K3 b = K2 b := fun b hb => by rw [e3]; exact mst_row _ _ _ hb
  have g3 : ∀ j, j ≠ 12 → K3 m j = K2 m j := fun j hj => by rw [e3]; exact mst_ne _ _ (Or.inr hj)
  have c2 : K3 m 2 = 0 := by rw [g3 _ (by omega), hL.2.2.2.2.2 2 (by omega)]; exact a2
  have c29 : K3 m 29 = K m 29 := by rw [g3 _ (by omega), hL.2.2.2.2.2 29 (by omega)]; exact a29
  have cf : ∀ b, b < m ∨ m + 12 < b → K3 b = K b := fun b hb => by rw [f3 _ (by omega), hL.1 b (by omega), fr8 _ (by omega)]
  cases hp : pAll bt n with
  | inl F =>
    rw [hp] at hs
    obtain ⟨v1, v2⟩ := hs
    have v2' : 8 * K2 m 10 + K2 m 9 = nI F := v2
    refine ok_pos v1 (ok_some ⟨fun b hb => cf b (by omega), c2, ?_, c29, fun q hq => cf _ (by omega), fun T hi ho hM => ?_⟩)
    · dsimp only
      rw [g3 10 (by omega), g3 9 (by omega), v2']
    · obtain ⟨⟨m2, m3, m4, m5, m6⟩, mP, mD, mN⟩ := hM
      dsimp only
      refine ⟨⟨?_, ?_, ?_, ?_, ?_⟩, fun i hi' => ?_, fun o ho' => ?_, fun c hc => ?_⟩
      · rw [f3 _ (by omega), hL.2.1 2 (by omega) (by omega), fr8 _ (by omega)]; exact m2
      · rw [f3 _ (by omega), hL.2.1 3 (by omega) (by omega), fr8 _ (by omega)]; exact m3
      · rw [f3 _ (by omega), hL.2.1 4 (by omega) (by omega), fr8 _ (by omega)]; exact m4
      · rw [f3 _ (by omega), hL.2.1 5 (by omega) (by omega), fr8 _ (by omega)]; exact m5
      · rw [f3 _ (by omega), hL.2.1 6 (by omega) (by omega), fr8 _ (by omega)]; exact m6
      · rw [f3 _ (by omega), hL.2.2.1 i (by omega), fr8 _ (by omega)]; exact mP i hi'
      · rw [f3 _ (by omega), hL.2.2.2.1 o (by omega), fr8 _ (by omega)]; exact mD o ho'
      · rw [f3 _ (by omega), hL.2.2.2.2.1 c hc, fr8 _ (by omega)]; exact mN c hc
  | inr y =>
    rw [hp] at hs
    obtain ⟨v1, v2, v3⟩ := hs
    refine ok_neg (by dsimp only; rw [v2]; decide) (ok_bind (cop_m (E := E) v3 (hG y hp) f3) (fun r hr => ?_))
    obtain ⟨r1, r2, r3⟩ := hr
    refine ok_wq (fun K4 e4 => ok_wr 0 rfl (by omega) (by omega) (ok_wr 1 rfl (by omega) (by omega) (ok_some ?_)))
    have f4 : ∀ b, b ≠ m → b ≠ m + 16 → mst (mst K4 (m + 16) 0 0) (m + 16) 1 0 b = r.2 b := fun b h1 h2 => by rw [mst_row _ _ _ h2, mst_row _ _ _ h2, e4, mst_row _ _ _ h1]
    refine ⟨fun b hb => ?_, ?_, v1, ?_, ?_, ?_, ?_, ?_⟩
    · dsimp only
      rw [f4 b (by omega) (by omega), r3 b (by omega), cf b (by omega)]
    · dsimp only
      rw [mst_ne _ _ (Or.inl (by omega)), mst_ne _ _ (Or.inl (by omega)), e4, mst_ne _ _ (Or.inr (by omega)), r3 m (by omega)]
      exact c2
    · dsimp only
      unfold MT at r1 ⊢
      rw [f4 (m + 2) (by omega) (by omega), f4 (m + 3) (by omega) (by omega), f4 (m + 4) (by omega) (by omega), f4 (m + 5) (by omega) (by omega), f4 (m + 6) (by omega) (by omega), f4 (m + 8) (by omega) (by omega), f4 (m + 11) (by omega) (by omega), f4 (m + 12) (by omega) (by omega)]
      exact r1
    · dsimp only
      rw [f4 (m + 13) (by omega) (by omega)]
      exact r2
    · dsimp only
      rw [mst_ne _ _ (Or.inl (by omega)), mst_ne _ _ (Or.inl (by omega)), e4, mst_self]
    · dsimp only
      rw [mst_ne _ _ (Or.inr (by omega)), mst_self]
    · dsimp only
      rw [mst_self]
