/-! lines of orders, all lines: the reference -/
section OrM
variable {m n : Nat} {bt : Nat → Nat}
theorem MBd.w12 {K : MI} {J : MJ} {B : Bd} {c v : Nat} (h : MBd K J m B) : MBd (mst K (m + 12) (160 + c) (nI v)) J m (bsN B c v) := by
  obtain ⟨⟨c1, c2, c3, c4, c5, c6, c7, c8⟩, d1, d2, d3⟩ := h
  have e : ∀ b, b ≠ m + 12 → mst K (m + 12) (160 + c) (nI v) b = K b := fun b hb => mst_row _ _ _ hb
  refine ⟨by rw [e _ (by omega), e _ (by omega), e _ (by omega), e _ (by omega), e _ (by omega), e m (by omega)]; exact ⟨c1, c2, c3, c4, c5, c6, c7, c8⟩, fun i hi => by rw [e _ (by omega), e _ (by omega)]; exact d1 i hi, fun o ho => by rw [e _ (by omega)]; exact d2 o ho, fun k hk => ?_⟩
  rw [ms_r]
  show pu (K (m + 12)) (160 + c) (nI v) (160 + k) = nI (pu (bN B) c v k)
  by_cases q : k = c
  · rw [q, pu_s, pu_s]
  · rw [pu_n (by omega), pu_n q]
    exact d3 k hk
theorem us_m {q : Nat} {r1 : Int32 × MJ × MI} (h12 : r1.2.2 m 12 = 1) (h16 : q < 16) : ∀ (f k : Nat) (J : MJ) (K : MI) (t : Tk) (B : Bd), k + f = 7 → Tape K (m + 1) n bt → MK K J m n t → GK n t → K m 9 = 0 → MBd K J m B → GB B → GNq B q k → bO B = q → Ok (lp (b_X5_orderLine_57 m r1 (nI q)) (nI k, J, K)) (fun p => Sum.elim (fun rr : Int32 × MJ × MI => ∃ F, pUs bt n f t B q k = .inl F ∧ rr.1 = 0 ∧ MFt rr.2.2 m F ∧ Lf m K rr.2.2) (fun s : Int32 × Int32 × MJ × MI => ∃ w, pUs bt n f t B q k = .inr w ∧ MK s.2.2.2 s.2.2.1 m n w.1 ∧ MBd s.2.2.2 s.2.2.1 m w.2 ∧ s.2.2.2 m 9 = 0 ∧ Lf m K s.2.2.2 ∧ s.2.2.2 (m + 11) = K (m + 11) ∧ (∀ j, j ≠ 8 → s.2.2.1 m j = J m j) ∧ s.2.2.1 (m + 10) = J (m + 10)) p) := by
  intro f
  induction f with
  | zero =>
    intro k J K t B hk hT hc hg h9 hB gB gN hq
    have := gN.2.2.2.2.2
    omega
  | succ f ih =>
    intro k J K t B hk hT hc hg h9 hB gB gN hq
    have hk6 := gN.2.2.2.2.2
    have hI10 := gB.1
    have hisn := isn_m hc hg
    obtain ⟨g1, g2, g3, g4, g5, g6, g7⟩ := id hg
    obtain ⟨k3, k4, k5, k6, k7, k8⟩ := id hc
    rw [pUs]
    unfold pUn
    -- a fault here
    have flt : ∀ {k' : Nat} {x : Option ((Int32 × MJ × MI) ⊕ ((Int32 × MJ × MI) ⊕ (Int32 × Int32 × MJ × MI)))}, x = some (.inr (.inl (0, J, mst (mst K m 9 (nI k')) m 10 (K m 4)))) → b_X5_orderLine_57 m r1 (nI q) (nI k, J, K) = x → Ok (lp (b_X5_orderLine_57 m r1 (nI q)) (nI k, J, K)) (fun p => Sum.elim (fun rr : Int32 × MJ × MI => ∃ F, (pB (.inl (8 * t.1 + k')) (fun w : Tk × Bd => if w.1.2.2.1 = 1 then pUs bt n f w.1 w.2 q (k + 1) else .inr w)) = .inl F ∧ rr.1 = 0 ∧ MFt rr.2.2 m F ∧ Lf m K rr.2.2) (fun s : Int32 × Int32 × MJ × MI => ∃ w, (pB (.inl (8 * t.1 + k')) (fun w : Tk × Bd => if w.1.2.2.1 = 1 then pUs bt n f w.1 w.2 q (k + 1) else .inr w)) = .inr w ∧ MK s.2.2.2 s.2.2.1 m n w.1 ∧ MBd s.2.2.2 s.2.2.1 m w.2 ∧ s.2.2.2 m 9 = 0 ∧ Lf m K s.2.2.2 ∧ s.2.2.2 (m + 11) = K (m + 11) ∧ (∀ j, j ≠ 8 → s.2.2.1 m j = J m j) ∧ s.2.2.1 (m + 10) = J (m + 10)) p) := by
      intro k' x h1 h2
      have := mu_f (J := J) (k := k') k4
      exact Ok.mk (lp_done (h2.trans h1)) ⟨8 * t.1 + k', rfl, rfl, this.1, this.2.lf⟩
    by_cases c1 : isN t = true
    · rw [if_pos c1]
      rw [if_pos c1] at hisn
      have e8 := k8 (isN_1 c1)
      have hin := in_m hB gB e8 g4
      by_cases c2 : fnd (bNm B) t.2.2.2 (bI B) < bI B
      · rw [if_pos c2]
        rw [if_pos c2] at hin
        generalize fnd (bNm B) t.2.2.2 (bI B) = i at c2 hin ⊢
        have hidx : (10 * ((16 * (r1.2.2 m 12)) + nI q)) + nI i = nI (160 + (10 * q + i)) := by rw [ix16 h12, ci_m]; congr 1; omega
        have hrd : rd 320 (K (m + 12)) ((10 * ((16 * (r1.2.2 m 12)) + nI q)) + nI i) = some (nI (bN B (10 * q + i))) := rd_v _ hidx (by omega) (by omega) (hB.2.2.2 _ (by omega))
        have hn9 := (gN.1 (10 * q + i) (by omega)).1
        have ni0 : ¬ nI i < 0 := nI_pos (by omega)
        by_cases c3 : bN B (10 * q + i) = 0
        · rw [if_pos c3]
          have p19 : (if nI i < 0 then some (1 : Int32) else (rd 320 (K (m + 12)) ((10 * ((16 * (r1.2.2 m 12)) + nI q)) + nI i)).bind fun v17 => if v17 = 0 then some 1 else some 0) = some 1 := it_n ni0 (bnd_s hrd (it_p (by rw [c3]; rfl) rfl))
          by_cases c4 : k < 6
          · rw [if_pos c4]
            have gt := gk_tok (bt := bt) g2
            obtain ⟨s, hs, s1, s2, s3, s4, s5⟩ := st_r (J := J) hT g2 k3 k5 h9
            obtain ⟨z, hz, z1, z2, z3⟩ := tn_m (J := s.1) (lo := 1) (hi := 9) (s3.tp hT) s1 gt.1 s2 (by omega) (by omega)
            have head : ∀ {y : (Int32 × MJ × MI) ⊕ ((Int32 × MJ × MI) ⊕ (Int32 × Int32 × MJ × MI))}, (if z.1 = 0 then some (.inr (.inl ((0, z.2.1, z.2.2)))) else (wr 320 z.2.2 (m + 12) ((10 * ((16 * (r1.2.2 m 12)) + nI q)) + nI i) (z.2.2 m 11)).bind fun I35 => if (I35 m 6) = 1 then some (.inl ((nI k + 1, z.2.1, I35))) else some (.inr (.inr ((nI k + 1, nI i, z.2.1, I35))))) = some y → b_X5_orderLine_57 m r1 (nI q) (nI k, J, K) = some y := fun h => bnd_s hisn (bnd_s (mu_y h9 (by decide)) (it_n i_10 (bnd_s hin (bnd_s p19 (bnd_s (mu_y h9 (by decide)) (it_n i_10 (bnd_s (it_n ni0 rfl) (bnd_s (mu_y h9 (by decide)) (it_n i_10 (bnd_s (it_p (nI_lt (b := 6) c4 (by omega)) rfl) (bnd_s (mu_y h9 (by decide)) (it_n i_10 (bnd_s hs (bnd_s hz h))))))))))))))
            cases hp : pN bt n 1 9 (tok bt n t.2.1) with
            | inl F =>
              rw [hp] at z3
              exact Ok.mk (lp_done (head (it_p z3.1 rfl))) ⟨F, rfl, rfl, z3.2, (s3.tr z1).lf⟩
            | inr w =>
              rw [hp] at z3
              obtain ⟨w1, w2, w3, w4⟩ := z3
              have gw := pN_g gt.1 hp
              have fr := s3.tr z1
              have hk2 : MK (mst z.2.2 (m + 12) (160 + (10 * q + i)) (nI w.1)) z.2.1 m n w.2 := w2.w (by omega) rfl
              have hB2 : MBd (mst z.2.2 (m + 12) (160 + (10 * q + i)) (nI w.1)) z.2.1 m (bsN B (10 * q + i) w.1) := (fr.md hB).w12
              have hl2 : Lf m K (mst z.2.2 (m + 12) (160 + (10 * q + i)) (nI w.1)) := fr.lf.tr (Lf.w (by omega))
              have h92 : mst z.2.2 (m + 12) (160 + (10 * q + i)) (nI w.1) m 9 = 0 := by rw [mst_row _ _ _ (by omega)]; exact w3
              have h11 : mst z.2.2 (m + 12) (160 + (10 * q + i)) (nI w.1) (m + 11) = K (m + 11) := by rw [mst_row _ _ _ (by omega)]; exact fr.2.1 _ (by omega)
              have hJm : ∀ j, j ≠ 8 → z.2.1 m j = J m j := fun j hj => (z2 j hj).trans (s5 j hj)
              have hJ10 : z.2.1 (m + 10) = J (m + 10) := fr.2.2.2 _ (by omega)
              have hwr : wr 320 z.2.2 (m + 12) ((10 * ((16 * (r1.2.2 m 12)) + nI q)) + nI i) (z.2.2 m 11) = some (mst z.2.2 (m + 12) (160 + (10 * q + i)) (nI w.1)) := by rw [w4]; exact wr_k _ hidx (by omega) (by omega)
              have e6 : mst z.2.2 (m + 12) (160 + (10 * q + i)) (nI w.1) m 6 = nI w.2.2.2.1 := hk2.2.2.2.1
              generalize mst z.2.2 (m + 12) (160 + (10 * q + i)) (nI w.1) = K2 at hk2 hB2 hl2 h92 h11 hwr e6
              have hk4 := gw.1.2.2.1
              show Ok _ (fun p => Sum.elim (fun rr : Int32 × MJ × MI => ∃ F, (if w.2.2.2.1 = 1 then pUs bt n f w.2 (bsN B (10 * q + i) w.1) q (k + 1) else .inr (w.2, bsN B (10 * q + i) w.1)) = .inl F ∧ rr.1 = 0 ∧ MFt rr.2.2 m F ∧ Lf m K rr.2.2) (fun s : Int32 × Int32 × MJ × MI => ∃ y, (if w.2.2.2.1 = 1 then pUs bt n f w.2 (bsN B (10 * q + i) w.1) q (k + 1) else .inr (w.2, bsN B (10 * q + i) w.1)) = .inr y ∧ MK s.2.2.2 s.2.2.1 m n y.1 ∧ MBd s.2.2.2 s.2.2.1 m y.2 ∧ s.2.2.2 m 9 = 0 ∧ Lf m K s.2.2.2 ∧ s.2.2.2 (m + 11) = K (m + 11) ∧ (∀ j, j ≠ 8 → s.2.2.1 m j = J m j) ∧ s.2.2.1 (m + 10) = J (m + 10)) p)
              by_cases cw : w.2.2.2.1 = 1
              · rw [if_pos cw]
                refine ok_next (head (it_n (by rw [w1]; decide) (bnd_s hwr (it_p (by rw [e6, cw]; rfl) (by rw [nI_1]))))) ((ih (k + 1) z.2.1 K2 w.2 (bsN B (10 * q + i) w.1) (by omega) (hl2.tp hT) hk2 gw.1 h92 hB2 gB (gnq_s gN h16 (by omega) c2 c3 gw.2.1 gw.2.2.1 c4) hq).im (fun p hp' => ?_))
                cases p with
                | inl rr =>
                  obtain ⟨F, a1, a2, a3, a4⟩ := hp'
                  exact ⟨F, a1, a2, a3, hl2.tr a4⟩
                | inr s' =>
                  obtain ⟨y, a1, a2, a3, a4, a5, a6, a7, a8⟩ := hp'
                  exact ⟨y, a1, a2, a3, a4, hl2.tr a5, a6.trans h11, fun j hj => (a7 j hj).trans (hJm j hj), a8.trans hJ10⟩
              · rw [if_neg cw]
                exact Ok.mk (lp_done (head (it_n (by rw [w1]; decide) (bnd_s hwr (it_n (fun q' => cw ((nI_eq (b := 1) (by omega) (by omega)).mp (e6.symm.trans q'))) rfl))))) ⟨_, rfl, hk2, hB2, h92, hl2, h11, hJm, hJ10⟩
          · rw [if_neg c4]
            exact flt (k' := 5) rfl (bnd_s hisn (bnd_s (mu_y h9 (by decide)) (it_n i_10 (bnd_s hin (bnd_s p19 (bnd_s (mu_y h9 (by decide)) (it_n i_10 (bnd_s (it_n ni0 rfl) (bnd_s (mu_y h9 (by decide)) (it_n i_10 (bnd_s (it_n (nI_nlt (b := 6) (by omega) (by omega)) rfl) (bnd_s (mu_n (k := 5) h9 (by omega) (by omega)) (it_p rfl rfl)))))))))))))
        · rw [if_neg c3]
          exact flt (k' := 2) rfl (bnd_s hisn (bnd_s (mu_y h9 (by decide)) (it_n i_10 (bnd_s hin (bnd_s (it_n ni0 (bnd_s hrd (it_n (nI_ne0 (by omega) (by omega)) rfl))) (bnd_s (mu_n (k := 2) h9 (by omega) (by omega)) (it_p rfl rfl)))))))
      · rw [if_neg c2]
        rw [if_neg c2] at hin
        exact flt (k' := 3) rfl (bnd_s hisn (bnd_s (mu_y h9 (by decide)) (it_n i_10 (bnd_s hin (bnd_s (it_p (by decide) rfl) (bnd_s (mu_y h9 (by decide)) (it_n i_10 (bnd_s (it_p (by decide) rfl) (bnd_s (mu_n (k := 3) h9 (by omega) (by omega)) (it_p rfl rfl))))))))))
    · rw [if_neg c1]
      rw [if_neg c1] at hisn
      exact flt (k' := 1) rfl (bnd_s hisn (bnd_s (mu_n (k := 1) h9 (by omega) (by omega)) (it_p rfl rfl)))
theorem or_mm {K : MI} {J : MJ} {t : Tk} {B : Bd} (hT : Tape K (m + 1) n bt) (hk : MK K J m n t) (hg : GK n t) (h9 : K m 9 = 0) (hB : MBd K J m B) (gB : GB B) (gN : GN B) (hO : bO B < 16) : Ok (f_X5_orderLine m J K) (fun r => MLO m n K r (pOrd bt n t B)) := by
  unfold f_X5_orderLine pOrd
  refine ok_bind (nn_m (J := J) hT hk hg h9 hB gB) (fun r hr => ?_)
  obtain ⟨f1, f3⟩ := hr
  cases hp : pW bt n t B with
  | inl F =>
    rw [hp] at f3
    exact ok_pos f3.1 (ok_some ⟨f1.lf, rfl, f3.2⟩)
  | inr q =>
    rw [hp] at f3
    obtain ⟨g1, g2, g3, g4⟩ := f3
    have gq := (pW_g hg hp).1
    have hB1 := f1.md hB
    have c8 := hB1.1.2.2.2.2.2.2.2
    refine ok_neg (by rw [g1]; decide) (ok_bs (rd_v 1 c8 (by omega) (by omega) hB1.1.2.1) ?_)
    refine ok_bind (tn_m (J := r.2.1) (lo := 0) (hi := 99) (f1.tp hT) g2 gq g3 (by omega) (by omega)) (fun s hs => ?_)
    obtain ⟨s1, s2, s3⟩ := hs
    show Ok _ (fun r => MLO m n K r (pB (pN bt n 0 99 q.2) (fun d => pB (pUs bt n 7 d.2 (bsQ B q.1 d.1) (bO B) 0) (fun w => .inr (w.1, bsO w.2)))))
    cases hp1 : pN bt n 0 99 q.2 with
    | inl F =>
      rw [hp1] at s3
      exact ok_pos s3.1 (ok_some ⟨(f1.tr s1).lf, rfl, s3.2⟩)
    | inr d =>
      rw [hp1] at s3
      obtain ⟨w1, w2, w3, w4⟩ := s3
      have gw := pN_g gq hp1
      refine ok_neg (by rw [w1]; decide) (ok_wr (16 + bO B) (ix16 c8) (by omega) (by omega) ?_)
      generalize hK6 : mst s.2.2 (m + 11) (16 + bO B) (s.2.2 m 11) = K6
      have l6 : Lf m K K6 := by rw [← hK6]; exact (f1.tr s1).lf.tr (Lf.w (by omega))
      have k6 : MK K6 s.2.1 m n d.2 := by rw [← hK6]; exact w2.w (by omega) rfl
      have e6 : ∀ b, b ≠ m + 11 → K6 b = s.2.2 b := fun b hb => by rw [← hK6, mst_row _ _ _ hb]
      have hB2 := s1.md hB1
      have r11 : K6 (m + 11) = pu (s.2.2 (m + 11)) (16 + bO B) (nI d.1) := by rw [← hK6, ms_r, w4]
      have hB6 : MBd K6 s.2.1 m (bsQ B q.1 d.1) := by
        obtain ⟨⟨c1, c2, c3, c4, c5, c6, c7, c8⟩, d1, d2, d3⟩ := hB2
        refine ⟨by rw [e6 _ (by omega), e6 _ (by omega), e6 _ (by omega), e6 _ (by omega), e6 _ (by omega), e6 m (by omega)]; exact ⟨c1, c2, c3, c4, c5, c6, c7, c8⟩, fun i hi => by rw [e6 _ (by omega), e6 _ (by omega)]; exact d1 i hi, fun o ho => ?_, fun c hc => by rw [e6 _ (by omega)]; exact d3 c hc⟩
        have ho' : o < bO B := ho
        rw [r11, pu_n (by omega)]
        show s.2.1 (m + 10) (16 + o) = lN (pu (bQ B) (bO B) q.1 o) ∧ s.2.2 (m + 11) (16 + o) = nI (pu (bD B) (bO B) d.1 o)
        rw [pu_n (by omega), pu_n (by omega)]
        exact d2 o ho'
      refine ok_bind (us_m (r1 := r) c8 hO 7 0 s.2.1 K6 d.2 (bsQ B q.1 d.1) (by omega) (l6.tp hT) k6 gw.1 (by rw [e6 m (by omega)]; exact w3) hB6 (gb_q gB) (gnq_0 gN hO) rfl) (fun p hp' => ?_)
      cases p with
      | inl rr =>
        obtain ⟨F, a1, a2, a3, a4⟩ := hp'
        refine ok_some ?_
        show MLO m n K rr (pB (pUs bt n 7 d.2 (bsQ B q.1 d.1) (bO B) 0) (fun w => .inr (w.1, bsO w.2)))
        rw [a1]
        exact ⟨l6.tr a4, a2, a3⟩
      | inr v =>
        obtain ⟨w, a1, a2, a3, a4, a5, a6, a7, a8⟩ := hp'
        obtain ⟨y1, y2, y3, y4, y5⟩ := pUs_g hO _ _ _ _ _ gw.1 (gb_q gB) (gnq_0 gN hO) rfl a1
        have hkq := pUs_k _ _ _ _ _ a1
        obtain ⟨⟨c1, c2, c3, c4, c5, c6, c7, c8'⟩, d1, d2, d3⟩ := id a3
        have hnm : r.2.1 m 26 = lN q.1 := g4
        show Ok ((wr 32 v.2.2.1 (m + 10) ((16 * (r.2.2 m 12)) + nI (bO B)) (r.2.1 m 26)).bind fun J39 => (rd 2 (v.2.2.2 (m + 3)) (v.2.2.2 m 12)).bind fun v40 => (wr 2 v.2.2.2 (m + 3) (v.2.2.2 m 12) (v40 + 1)).bind fun I41 => some ((1, J39, I41))) (fun r => MLO m n K r (pB (pUs bt n 7 d.2 (bsQ B q.1 d.1) (bO B) 0) (fun w => .inr (w.1, bsO w.2))))
        rw [a1]
        refine ok_wr (16 + bO B) (ix16 c8) (by omega) (by omega) (ok_bs (rd_v 1 c8' (by omega) (by omega) c2) (ok_wr 1 c8' (by omega) (by omega) (ok_some ⟨(l6.tr a5).tr (Lf.w (by omega)), rfl, a2.w (by omega) (mst_row _ _ _ (by omega)), ?_, ?_⟩)))
        · refine ⟨⟨?_, ?_, ?_, ?_, ?_, ?_, ?_, ?_⟩, fun i hi => ?_, fun o ho => ?_, fun c hc => ?_⟩
          · dsimp only; rw [mst_row _ _ _ (by omega)]; exact c1
          · dsimp only; rw [mst_self, nI_1]; rfl
          · dsimp only; rw [mst_row _ _ _ (by omega)]; exact c3
          · dsimp only; rw [mst_row _ _ _ (by omega)]; exact c4
          · dsimp only; rw [mst_row _ _ _ (by omega)]; exact c5
          · dsimp only; rw [mst_row _ _ _ (by omega)]; exact c6
          · dsimp only; rw [mst_row _ _ _ (by omega)]; exact c7
          · dsimp only; rw [mst_row _ _ _ (by omega)]; exact c8'
          · dsimp only; rw [mst_row _ _ _ (by omega), mst_row _ _ _ (by omega), mst_row _ _ _ (by omega)]; exact d1 i hi
          · have ho' : o < bO w.2 + 1 := ho
            dsimp only
            rw [ms_r, mst_row _ _ _ (by omega)]
            show pu (v.2.2.1 (m + 10)) (16 + bO B) (r.2.1 m 26) (16 + o) = lN (bQ w.2 o) ∧ v.2.2.2 (m + 11) (16 + o) = nI (bD w.2 o)
            by_cases e : o = bO B
            · rw [e, pu_s, hnm, a6, r11, pu_s, hkq.1, hkq.2]
              show lN q.1 = lN (pu (bQ B) (bO B) q.1 (bO B)) ∧ nI d.1 = nI (pu (bD B) (bO B) d.1 (bO B))
              rw [pu_s, pu_s]
              exact ⟨rfl, rfl⟩
            · have e' : 16 + o ≠ 16 + bO B := by omega
              rw [pu_n e']
              exact d2 o (by omega)
          · dsimp only; rw [mst_row _ _ _ (by omega)]; exact d3 c hc
        · dsimp only; rw [mst_row _ _ _ (by omega)]; exact a4
end OrM
