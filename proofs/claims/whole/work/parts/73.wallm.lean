/-! the reference: a line, all lines -/
section WlM
variable {m n : Nat} {bt : Nat → Nat}
theorem wh_4 {t : Tk} : wht t ≤ 4 := by
  unfold wht
  split
  · split
    · omega
    · split
      · omega
      · split
        · omega
        · split <;> omega
  · omega
theorem wh_m {K : MI} {J : MJ} {t : Tk} (hk : MK K J m n t) (hg : GK n t) : ((f_X5_is m 0 J K).bind fun r1 => if r1 = 0 then (f_X5_is m 1 J K).bind fun r4 => if r4 = 0 then (f_X5_is m 2 J K).bind fun r6 => if r6 = 0 then (f_X5_is m 3 J K).bind fun r8 => if r8 = 0 then some ((-1)) else some 3 else some 2 else some 1 else some 0) = some (if wht t = 4 then -1 else nI (wht t)) := by
  have h0 := is_m (i := 0) hk hg (by omega)
  have h1 := is_m (i := 1) hk hg (by omega)
  have h2 := is_m (i := 2) hk hg (by omega)
  have h3 := is_m (i := 3) hk hg (by omega)
  have e0 : cst 0 = 8892595 := rfl
  have e1 : cst 1 = 755397 := rfl
  have e2 : cst 2 = 315565 := rfl
  have e3 : cst 3 = 16322738 := rfl
  rw [e0] at h0
  rw [e1] at h1
  rw [e2] at h2
  rw [e3] at h3
  unfold wht
  by_cases c0 : t.2.2.1 = 1
  · rw [if_pos c0]
    by_cases c1 : t.2.2.2 = 8892595
    · refine bnd_s h0 (it_n (by rw [if_pos ⟨c0, c1⟩]; decide) ?_)
      rw [c1]
      rfl
    have n1 : (if t.2.2.1 = 1 ∧ t.2.2.2 = 8892595 then (1 : Int32) else 0) = 0 := if_neg (fun q => c1 q.2)
    by_cases c2 : t.2.2.2 = 755397
    · refine bnd_s h0 (it_p n1 (bnd_s h1 (it_n (by rw [if_pos ⟨c0, c2⟩]; decide) ?_)))
      rw [c2]
      rfl
    have n2 : (if t.2.2.1 = 1 ∧ t.2.2.2 = 755397 then (1 : Int32) else 0) = 0 := if_neg (fun q => c2 q.2)
    by_cases c3 : t.2.2.2 = 315565
    · refine bnd_s h0 (it_p n1 (bnd_s h1 (it_p n2 (bnd_s h2 (it_n (by rw [if_pos ⟨c0, c3⟩]; decide) ?_)))))
      rw [c3]
      rfl
    have n3 : (if t.2.2.1 = 1 ∧ t.2.2.2 = 315565 then (1 : Int32) else 0) = 0 := if_neg (fun q => c3 q.2)
    by_cases c4 : t.2.2.2 = 16322738
    · refine bnd_s h0 (it_p n1 (bnd_s h1 (it_p n2 (bnd_s h2 (it_p n3 (bnd_s h3 (it_n (by rw [if_pos ⟨c0, c4⟩]; decide) ?_)))))))
      rw [c4]
      rfl
    have n4 : (if t.2.2.1 = 1 ∧ t.2.2.2 = 16322738 then (1 : Int32) else 0) = 0 := if_neg (fun q => c4 q.2)
    refine bnd_s h0 (it_p n1 (bnd_s h1 (it_p n2 (bnd_s h2 (it_p n3 (bnd_s h3 (it_p n4 ?_)))))))
    rw [if_neg c1, if_neg c2, if_neg c3, if_neg c4]
    rfl
  · rw [if_neg c0]
    exact bnd_s h0 (it_p (if_neg (fun q => c0 q.1)) (bnd_s h1 (it_p (if_neg (fun q => c0 q.1)) (bnd_s h2 (it_p (if_neg (fun q => c0 q.1)) (bnd_s h3 (it_p (if_neg (fun q => c0 q.1)) rfl)))))))
theorem tl_m {K K1 : MI} {R : Nat ⊕ (Tk × Bd)} {x : Option (Int32 × MJ × MI)} (hT : Tape K (m + 1) n bt) (hl : Lf m K K1) (hR : ∀ y, R = .inr y → GK n y.1) (h : Ok x (fun r => MLO m n K1 r R)) : Ok (x.bind fun p51 => if p51.1 = 0 then some ((0, p51.2.1, p51.2.2)) else (if (p51.2.2 m 6) = 3 then some 1 else some 0).bind fun (p55 : Int32) => (f_X5_must m p55 1 p51.2.1 p51.2.2).bind fun r56 => if r56.1 = 0 then some ((0, p51.2.1, r56.2)) else (f_X5_steps m p51.2.1 r56.2).bind fun r58 => some ((1, r58.1, r58.2))) (fun r => MLO m n K r (pB R (pCl bt n))) := by
  refine ok_bind h (fun p hp => ?_)
  obtain ⟨h1, h2⟩ := hp
  cases R with
  | inl F => exact ok_pos h2.1 (ok_some ⟨hl.tr h1, rfl, h2.2⟩)
  | inr w =>
    obtain ⟨w1, w2, w3, w4⟩ := h2
    have gw := hR w rfl
    show Ok _ (fun r => MLO m n K r (pCl bt n w))
    unfold pCl
    obtain ⟨k3, k4, k5, k6, k7, k8⟩ := id w2
    have h4 := gw.2.2.1
    refine ok_neg (by rw [w1]; decide) ?_
    by_cases c : w.1.2.2.1 = 3
    · rw [if_pos c]
      refine ok_bs (it_p (by rw [k6, c]; rfl) rfl) (ok_bs (mu_y w4 (by decide)) (ok_neg i_10 ?_))
      refine ok_bind (st_r (J := p.2.1) ((hl.tr h1).tp hT) gw.2.1 k3 k5 w4) (fun r hr => ok_some ?_)
      obtain ⟨r1, r2, r3, r4, r5⟩ := hr
      exact ⟨(hl.tr h1).tr r3.lf, rfl, r1, r3.md w3, r2⟩
    · rw [if_neg c]
      refine ok_bs (it_n (fun q => c ((nI_eq (b := 3) (by omega) (by omega)).mp (k6.symm.trans q))) rfl) (ok_bs (mu_n (k := 1) w4 (by omega) (by omega)) (ok_pos rfl (ok_some ?_)))
      have := mu_f (J := p.2.1) (k := 1) k4
      exact ⟨(hl.tr h1).tr this.2.lf, rfl, this.1⟩
theorem lh_m {K : MI} {J : MJ} {t : Tk} {B : Bd} (hT : Tape K (m + 1) n bt) (hk : MK K J m n t) (hg : GK n t) (h9 : K m 9 = 0) (hB : MBd K J m B) (gB : GB B) (gN : GN B) : Ok (f_X5_lineHere m J K) (fun r => MLO m n K r (pLn bt n t B)) := by
  have hwh := wh_m hk hg
  have hw4 := wh_4 (t := t)
  obtain ⟨g1, g2, g3, g4, g5, g6, g7⟩ := id hg
  obtain ⟨k3, k4, k5, k6, k7, k8⟩ := id hk
  obtain ⟨⟨c1, c2, c3, c4, c5, c6, c7, c8⟩, d1, d2, d3⟩ := id hB
  obtain ⟨b1, b2, b3, b4, b5, b6, b7, b8, b9⟩ := id gB
  have gt := gk_tok (bt := bt) g2
  have fl : ∀ {k : Nat} , MLO m n K (0, J, mst (mst K m 9 (nI k)) m 10 (K m 4)) (.inl (8 * t.1 + k)) := fun {k} => by
    have := mu_f (J := J) (k := k) k4
    exact ⟨this.2.lf, rfl, this.1⟩
  unfold f_X5_lineHere
  have sp : ∀ {α : Type} {x : Option Int32} {f : Int32 → Option Int32} {g : Int32 → Option α} {v : Int32} {r : Option α}, (x.bind f) = some v → g v = r → (x.bind fun r1 => (f r1).bind g) = r := by
    intro α x f g v r h1 h2
    cases x with
    | none => cases h1
    | some a =>
      have h1' : f a = some v := h1
      show (f a).bind g = r
      rw [h1']
      exact h2
  have spo : ∀ {α : Type} {x : Option Int32} {f : Int32 → Option Int32} {g : Int32 → Option α} {v : Int32} {Q : α → Prop}, (x.bind f) = some v → Ok (g v) Q → Ok (x.bind fun r1 => (f r1).bind g) Q := by
    intro α x f g v Q h1 h2
    obtain ⟨r, hr, hq⟩ := h2
    exact ⟨r, sp h1 hr, hq⟩
  have my : ∀ {x : Int32}, ¬ x = 0 → ∀ {k : Int32}, f_X5_must m x k J K = some (1, K) := fun hx => mu_y h9 hx
  obtain ⟨s, hs, s1, s2, s3, s4, s5⟩ := st_r (J := J) hT g2 k3 k5 h9
  have hTs := s3.tp hT
  have hBs := s3.md hB
  rcases (show wht t = 0 ∨ wht t = 1 ∨ wht t = 2 ∨ wht t = 3 ∨ wht t = 4 by omega) with w | w | w | w | w
  · have hpl : pLn bt n t B = if bHt B = 0 then pB (pHol bt n (tok bt n t.2.1) B) (pCl bt n) else .inl (8 * t.1 + 2) := by unfold pLn; rw [if_pos w]
    rw [w] at hwh
    rw [hpl]
    refine spo (v := 0) hwh ?_
    refine ok_bs (it_n (by decide) rfl) (ok_bs (my (by decide)) (ok_neg i_10 ?_))
    by_cases c : bHt B = 0
    · rw [if_pos c]
      refine ok_bs (it_p rfl (it_p (by show K m 24 = 0; rw [c6, c]; rfl) rfl)) (ok_bs (my (by decide)) (ok_neg i_10 (ok_bs (it_n (by decide) rfl) (ok_bs (my (by decide)) (ok_neg i_10 (ok_bs (it_n (by decide) rfl) (ok_bs (my (by decide)) (ok_neg i_10 (ok_bs (it_n (by decide) rfl) (ok_bs (my (by decide)) (ok_neg i_10 (ok_bs hs ?_))))))))))))
      exact tl_m hT s3.lf (fun y hy => (pHol_g gt.1 gB gN hy).1) (ok_pos rfl (ok_bind (ho_m (J := s.1) hTs s1 gt.1 s2 hBs) (fun r hr => ok_some hr)))
    · rw [if_neg c]
      exact ok_bs (it_p rfl (it_n (by show ¬ K m 24 = 0; rw [c6]; exact nI_ne0 (by omega) (by omega)) rfl)) (ok_bs (mu_n (k := 2) h9 (by omega) (by omega)) (ok_pos rfl (ok_some fl)))
  · have hpl : pLn bt n t B = if bWt B = 0 then pB (pWav bt n (tok bt n t.2.1) B) (pCl bt n) else .inl (8 * t.1 + 2) := by unfold pLn; rw [if_neg (by omega), if_pos w]
    rw [w] at hwh
    rw [hpl]
    refine spo (v := 1) hwh ?_
    refine ok_bs (it_n (by decide) rfl) (ok_bs (my (by decide)) (ok_neg i_10 (ok_bs (it_n (by decide) rfl) (ok_bs (my (by decide)) (ok_neg i_10 ?_)))))
    by_cases c : bWt B = 0
    · rw [if_pos c]
      refine ok_bs (it_p rfl (it_p (by show K m 25 = 0; rw [c7, c]; rfl) rfl)) (ok_bs (my (by decide)) (ok_neg i_10 (ok_bs (it_n (by decide) rfl) (ok_bs (my (by decide)) (ok_neg i_10 (ok_bs (it_n (by decide) rfl) (ok_bs (my (by decide)) (ok_neg i_10 (ok_bs hs ?_)))))))))
      exact tl_m hT s3.lf (fun y hy => (pWav_g gt.1 gB gN hy).1) (ok_neg (by decide) (ok_pos rfl (ok_bind (wa_m (J := s.1) hTs s1 gt.1 s2 hBs) (fun r hr => ok_some hr))))
    · rw [if_neg c]
      exact ok_bs (it_p rfl (it_n (by show ¬ K m 25 = 0; rw [c7]; exact nI_ne0 (by omega) (by omega)) rfl)) (ok_bs (mu_n (k := 2) h9 (by omega) (by omega)) (ok_pos rfl (ok_some fl)))
  · have hpl : pLn bt n t B = if bI B < 10 then pB (pItm bt n (tok bt n t.2.1) B) (pCl bt n) else .inl (8 * t.1 + 5) := by unfold pLn; rw [if_neg (by omega), if_neg (by omega), if_pos w]
    rw [w] at hwh
    rw [hpl]
    refine spo (v := 2) hwh ?_
    refine ok_bs (it_n (by decide) rfl) (ok_bs (my (by decide)) (ok_neg i_10 (ok_bs (it_n (by decide) rfl) (ok_bs (my (by decide)) (ok_neg i_10 (ok_bs (it_n (by decide) rfl) (ok_bs (my (by decide)) (ok_neg i_10 ?_))))))))
    have rI : rd 2 (K (m + 2)) (K m 12) = some (nI (bI B)) := rd_v 1 c8 (by omega) (by omega) c1
    by_cases c : bI B < 10
    · rw [if_pos c]
      refine ok_bs (it_p rfl (bnd_s rI (it_p (nI_lt (b := 10) c (by omega)) rfl))) (ok_bs (my (by decide)) (ok_neg i_10 (ok_bs (it_n (by decide) rfl) (ok_bs (my (by decide)) (ok_neg i_10 (ok_bs hs ?_))))))
      exact tl_m hT s3.lf (fun y hy => (pItm_g gt.1 gB gN c hy).1) (ok_neg (by decide) (ok_neg (by decide) (ok_pos rfl (ok_bind (it_m (J := s.1) hTs s1 gt.1 s2 hBs gB c) (fun r hr => ok_some hr)))))
    · rw [if_neg c]
      exact ok_bs (it_p rfl (bnd_s rI (it_n (nI_nlt (b := 10) (by omega) (by omega)) rfl))) (ok_bs (mu_n (k := 5) h9 (by omega) (by omega)) (ok_pos rfl (ok_some fl)))
  · have hpl : pLn bt n t B = if bO B < 16 then pB (pOrd bt n (tok bt n t.2.1) B) (pCl bt n) else .inl (8 * t.1 + 5) := by unfold pLn; rw [if_neg (by omega), if_neg (by omega), if_neg (by omega), if_pos w]
    rw [w] at hwh
    rw [hpl]
    refine spo (v := 3) hwh ?_
    refine ok_bs (it_n (by decide) rfl) (ok_bs (my (by decide)) (ok_neg i_10 (ok_bs (it_n (by decide) rfl) (ok_bs (my (by decide)) (ok_neg i_10 (ok_bs (it_n (by decide) rfl) (ok_bs (my (by decide)) (ok_neg i_10 (ok_bs (it_n (by decide) rfl) (ok_bs (my (by decide)) (ok_neg i_10 ?_)))))))))))
    have rO : rd 2 (K (m + 3)) (K m 12) = some (nI (bO B)) := rd_v 1 c8 (by omega) (by omega) c2
    by_cases c : bO B < 16
    · rw [if_pos c]
      refine ok_bs (it_p rfl (bnd_s rO (it_p (nI_lt (b := 16) c (by omega)) rfl))) (ok_bs (my (by decide)) (ok_neg i_10 (ok_bs hs ?_)))
      exact tl_m hT s3.lf (fun y hy => (pOrd_g gt.1 gB gN c hy).1) (ok_neg (by decide) (ok_neg (by decide) (ok_neg (by decide) (ok_bind (or_mm (J := s.1) hTs s1 gt.1 s2 hBs gB gN c) (fun r hr => ok_some hr)))))
    · rw [if_neg c]
      exact ok_bs (it_p rfl (bnd_s rO (it_n (nI_nlt (b := 16) (by omega) (by omega)) rfl))) (ok_bs (mu_n (k := 5) h9 (by omega) (by omega)) (ok_pos rfl (ok_some fl)))
  · have hpl : pLn bt n t B = .inl (8 * t.1 + 1) := by unfold pLn; rw [if_neg (by omega), if_neg (by omega), if_neg (by omega), if_neg (by omega)]
    rw [w] at hwh
    rw [hpl]
    refine spo (v := -1) hwh ?_
    exact ok_bs (it_p (by decide) rfl) (ok_bs (mu_n (k := 1) h9 (by omega) (by omega)) (ok_pos rfl (ok_some fl)))
theorem wl_m : ∀ (f k : Nat) (J : MJ) (K : MI) (t : Tk) (B : Bd), k + f = 601 → Tape K (m + 1) n bt → MK K J m n t → GK n t → K m 9 = 0 → MBd K J m B → GB B → GN B → (t.2.2.1 ≠ 0 → k + 1 ≤ t.2.1) → Ok (lp (b_X5_wall_69 m) (nI k, 1, J, K)) (fun s => Lf m K s.2.2.2 ∧ Sum.elim (fun F => s.2.1 = 0 ∧ MFt s.2.2.2 m F) (fun y => s.1 = nI y.2 ∧ s.2.1 = 1 ∧ MBd s.2.2.2 s.2.2.1 m y.1) (pRd bt n f t B k)) := by
  intro f
  induction f with
  | zero =>
    intro k J K t B hk hT hc hg h9 hB gB gN hp
    have h600 := hT.1
    have hle := hg.2.1
    have c : t.2.2.1 = 0 := Classical.byContradiction (fun q => by have := hp q; omega)
    exact Ok.mk (r := (nI k, 1, J, K)) (lp_done (it_n i_10 (it_p (by dsimp only; rw [hc.2.2.2.1, c]; rfl) rfl))) ⟨Lf.rf, rfl, rfl, hB⟩
  | succ f ih =>
    intro k J K t B hk hT hc hg h9 hB gB gN hp
    have h600 := hT.1
    have hle := hg.2.1
    have hk4 := hg.2.2.1
    rw [pRd]
    by_cases c : t.2.2.1 = 0
    · rw [if_pos c]
      exact Ok.mk (r := (nI k, 1, J, K)) (lp_done (it_n i_10 (it_p (by dsimp only; rw [hc.2.2.2.1, c]; rfl) rfl))) ⟨Lf.rf, rfl, rfl, hB⟩
    · rw [if_neg c]
      have hp' := hp c
      obtain ⟨r, hr, r1, r2⟩ := lh_m (J := J) hT hc hg h9 hB gB gN
      have st : b_X5_wall_69 m (nI k, 1, J, K) = some (.inl (nI (k + 1), r.1, r.2.1, r.2.2)) := by
        refine it_n i_10 (it_n (fun q => c ((nI_eq (b := 0) (by omega) (by omega)).mp (hc.2.2.2.1.symm.trans q))) (bnd_s hr ?_))
        dsimp only
        rw [nI_1]
      cases hpl : pLn bt n t B with
      | inl F =>
        rw [hpl] at r2
        exact ok_next st (Ok.mk (r := (nI (k + 1), r.1, r.2.1, r.2.2)) (lp_done (it_p r2.1 rfl)) ⟨r1, r2⟩)
      | inr w =>
        rw [hpl] at r2
        obtain ⟨w1, w2, w3, w4⟩ := r2
        obtain ⟨v1, v2, v3, v4⟩ := pLn_g hg gB gN hpl
        rw [w1] at st
        refine ok_next st ((ih (k + 1) r.2.1 r.2.2 w.1 w.2 (by omega) (r1.tp hT) w2 v1 w4 w3 v2 v3 (fun q => ?_)).im (fun s hs => ⟨r1.tr hs.1, hs.2⟩))
        have := v1.2.2.2.2.2.1 q
        omega
end WlM
