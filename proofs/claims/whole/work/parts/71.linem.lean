/-! lines: the reference -/
def Lf (m : Nat) (K K' : MI) : Prop := (∀ b, b < m ∨ b = m + 1 ∨ m + 12 < b → K' b = K b) ∧ (∀ r, 2 ≤ r → r ≤ 6 → K' (m + r) 0 = K (m + r) 0) ∧ (∀ k, k < 10 → K' (m + 8) k = K (m + 8) k) ∧ (∀ k, k < 16 → K' (m + 11) k = K (m + 11) k) ∧ (∀ k, k < 160 → K' (m + 12) k = K (m + 12) k) ∧ ∀ j, j < 4 ∨ j = 12 ∨ 26 ≤ j → K' m j = K m j
theorem Lf.rf {m : Nat} {K : MI} : Lf m K K := ⟨fun _ _ => rfl, fun _ _ _ => rfl, fun _ _ => rfl, fun _ _ => rfl, fun _ _ => rfl, fun _ _ => rfl⟩
theorem Lf.tr {m : Nat} {K K' K'' : MI} (h : Lf m K K') (h' : Lf m K' K'') : Lf m K K'' := ⟨fun b hb => (h'.1 b hb).trans (h.1 b hb), fun r h1 h2 => (h'.2.1 r h1 h2).trans (h.2.1 r h1 h2), fun k hk => (h'.2.2.1 k hk).trans (h.2.2.1 k hk), fun k hk => (h'.2.2.2.1 k hk).trans (h.2.2.2.1 k hk), fun k hk => (h'.2.2.2.2.1 k hk).trans (h.2.2.2.2.1 k hk), fun j hj => (h'.2.2.2.2.2 j hj).trans (h.2.2.2.2.2 j hj)⟩
theorem Rf.lf {m : Nat} {K K' : MI} {J J' : MJ} (h : Rf m K J K' J') : Lf m K K' := ⟨fun b hb => h.2.1 b (by omega), fun r h1 h2 => by rw [h.2.1 _ (by omega)], fun k _ => by rw [h.2.1 _ (by omega)], fun k _ => by rw [h.2.1 _ (by omega)], fun k _ => by rw [h.2.1 _ (by omega)], fun j hj => h.1 j (by omega)⟩
theorem Lf.w {m r k : Nat} {K : MI} {v : Int32} (h : 2 ≤ r ∧ r ≤ 6 ∧ 1 ≤ k ∨ r = 8 ∧ 10 ≤ k ∨ r = 9 ∨ r = 11 ∧ 16 ≤ k ∨ r = 12 ∧ 160 ≤ k) : Lf m K (mst K (m + r) k v) := ⟨fun b hb => mst_row _ _ _ (by omega), fun r' h1 h2 => mst_ne _ _ (by omega), fun k' hk => mst_ne _ _ (by omega), fun k' hk => mst_ne _ _ (by omega), fun k' hk => mst_ne _ _ (by omega), fun j hj => mst_ne _ _ (by omega)⟩
theorem Lf.f {m j : Nat} {K : MI} {v : Int32} (h : j = 24 ∨ j = 25) : Lf m K (mst K m j v) := ⟨fun b hb => mst_row _ _ _ (by omega), fun r' h1 h2 => mst_ne _ _ (by omega), fun k' hk => mst_ne _ _ (by omega), fun k' hk => mst_ne _ _ (by omega), fun k' hk => mst_ne _ _ (by omega), fun i hi => mst_ne _ _ (by omega)⟩
theorem Lf.tp {m n : Nat} {K K' : MI} {bt : Nat → Nat} (h : Lf m K K') (hT : Tape K (m + 1) n bt) : Tape K' (m + 1) n bt := hT.fr (h.1 _ (by omega))
def MLO (m n : Nat) (K : MI) (r : Int32 × MJ × MI) (R : Nat ⊕ (Tk × Bd)) : Prop := Lf m K r.2.2 ∧ Sum.elim (fun F => r.1 = 0 ∧ MFt r.2.2 m F) (fun w => r.1 = 1 ∧ MK r.2.2 r.2.1 m n w.1 ∧ MBd r.2.2 r.2.1 m w.2 ∧ r.2.2 m 9 = 0) R
theorem MK.w {K : MI} {J J' : MJ} {m n r k : Nat} {t : Tk} {v : Int32} (h : MK K J m n t) (hr : r ≠ 0) (hJ : J' m = J m) : MK (mst K (m + r) k v) J' m n t := by
  unfold MK at *
  rw [mst_row _ _ _ (by omega), hJ]
  exact h
theorem MK.f {K : MI} {J : MJ} {m n j : Nat} {t : Tk} {v : Int32} (h : MK K J m n t) (hj : 7 < j) : MK (mst K m j v) J m n t := by
  unfold MK at *
  rw [mst_ne _ _ (Or.inr (by omega)), mst_ne _ _ (Or.inr (by omega)), mst_ne _ _ (Or.inr (by omega)), mst_ne _ _ (Or.inr (by omega)), mst_ne _ _ (Or.inr (by omega))]
  exact h
section LnM
variable {m n : Nat} {bt : Nat → Nat} {J : MJ}
theorem ho_m {K : MI} {t : Tk} {B : Bd} (hT : Tape K (m + 1) n bt) (hk : MK K J m n t) (hg : GK n t) (h9 : K m 9 = 0) (hB : MBd K J m B) : Ok (f_X5_holesLine m J K) (fun r => MLO m n K r (pHol bt n t B)) := by
  unfold f_X5_holesLine pHol
  refine ok_bind (tn_m (J := J) (lo := 1) (hi := 8) hT hk hg h9 (by omega) (by omega)) (fun r hr => ?_)
  obtain ⟨f1, f2, f3⟩ := hr
  cases hp : pN bt n 1 8 t with
  | inl F =>
    rw [hp] at f3
    exact ok_pos f3.1 (ok_some ⟨f1.lf, rfl, f3.2⟩)
  | inr w =>
    rw [hp] at f3
    obtain ⟨g1, g2, g3, g4⟩ := f3
    have hB1 := f1.md hB
    obtain ⟨⟨c1, c2, c3, c4, c5, c6, c7, c8⟩, d1, d2, d3⟩ := id hB1
    refine ok_neg (by rw [g1]; decide) (ok_wr 1 c8 (by omega) (by omega) (ok_wf (ok_some ⟨(f1.lf.tr (Lf.w (by omega))).tr (Lf.f (by omega)), rfl, (g2.w (by omega) rfl).f (by omega), ?_, ?_⟩)))
    · refine ⟨⟨?_, ?_, ?_, ?_, ?_, ?_, ?_, ?_⟩, fun i hi => ?_, fun o ho => ?_, fun c hc => ?_⟩
      · dsimp only; rw [mst_row _ _ _ (by omega), mst_row _ _ _ (by omega)]; exact c1
      · dsimp only; rw [mst_row _ _ _ (by omega), mst_row _ _ _ (by omega)]; exact c2
      · dsimp only; rw [mst_row _ _ _ (by omega), mst_self, g4]; rfl
      · dsimp only; rw [mst_row _ _ _ (by omega), mst_row _ _ _ (by omega)]; exact c4
      · dsimp only; rw [mst_row _ _ _ (by omega), mst_row _ _ _ (by omega)]; exact c5
      · dsimp only; rw [mst_self]; rfl
      · dsimp only; rw [mst_ne _ _ (Or.inr (by omega)), mst_row _ _ _ (by omega)]; exact c7
      · dsimp only; rw [mst_ne _ _ (Or.inr (by omega)), mst_row _ _ _ (by omega)]; exact c8
      · dsimp only; rw [mst_row _ _ _ (by omega), mst_row _ _ _ (by omega), mst_row _ _ _ (by omega), mst_row _ _ _ (by omega)]; exact d1 i hi
      · dsimp only; rw [mst_row _ _ _ (by omega), mst_row _ _ _ (by omega)]; exact d2 o ho
      · dsimp only; rw [mst_row _ _ _ (by omega), mst_row _ _ _ (by omega)]; exact d3 c hc
    · dsimp only; rw [mst_ne _ _ (Or.inr (by omega)), mst_row _ _ _ (by omega)]; exact g3
theorem wa_m {K : MI} {t : Tk} {B : Bd} (hT : Tape K (m + 1) n bt) (hk : MK K J m n t) (hg : GK n t) (h9 : K m 9 = 0) (hB : MBd K J m B) : Ok (f_X5_waveLine m J K) (fun r => MLO m n K r (pWav bt n t B)) := by
  unfold f_X5_waveLine pWav
  refine ok_bind (tn_m (J := J) (lo := 1) (hi := 8) hT hk hg h9 (by omega) (by omega)) (fun r hr => ?_)
  obtain ⟨f1, f2, f3⟩ := hr
  cases hp : pN bt n 1 8 t with
  | inl F =>
    rw [hp] at f3
    exact ok_pos f3.1 (ok_some ⟨f1.lf, rfl, f3.2⟩)
  | inr w =>
    rw [hp] at f3
    obtain ⟨g1, g2, g3, g4⟩ := f3
    have gw := (pN_g hg hp).1
    have hB1 := f1.md hB
    obtain ⟨⟨c1, c2, c3, c4, c5, c6, c7, c8⟩, d1, d2, d3⟩ := id hB1
    refine ok_neg (by rw [g1]; decide) (ok_wr 1 c8 (by omega) (by omega) ?_)
    generalize hK3 : mst r.2.2 (m + 5) 1 (r.2.2 m 11) = K3
    have l3 : Lf m K K3 := by rw [← hK3]; exact f1.lf.tr (Lf.w (by omega))
    have k3 : MK K3 r.2.1 m n w.2 := by rw [← hK3]; exact g2.w (by omega) rfl
    have e3 : ∀ b, b ≠ m + 5 → K3 b = r.2.2 b := fun b hb => by rw [← hK3, mst_row _ _ _ hb]
    have e5 : K3 (m + 5) 1 = nI w.1 := by rw [← hK3, mst_self]; exact g4
    refine ok_bind (tn_m (J := r.2.1) (lo := 1) (hi := 60) (l3.tp hT) k3 gw (by rw [e3 m (by omega)]; exact g3) (by omega) (by omega)) (fun s hs => ?_)
    obtain ⟨s1, s2, s3⟩ := hs
    show Ok _ (fun r => MLO m n K r (pB (pN bt n 1 60 w.2) (fun y => .inr (y.2, bsWav B w.1 y.1))))
    cases hp2 : pN bt n 1 60 w.2 with
    | inl F =>
      rw [hp2] at s3
      exact ok_pos s3.1 (ok_some ⟨l3.tr s1.lf, rfl, s3.2⟩)
    | inr y =>
      rw [hp2] at s3
      obtain ⟨y1, y2, y3, y4⟩ := s3
      have o1 : ∀ b, b ≠ m → b ≠ m + 5 → s.2.2 b = r.2.2 b := fun b h1 h2 => (s1.2.1 b h1).trans (e3 b h2)
      have oj : ∀ j, 11 < j → s.2.2 m j = r.2.2 m j := fun j hj => (s1.1 j (by omega)).trans (by rw [e3 m (by omega)])
      have j7 : s.2.1 (m + 7) = r.2.1 (m + 7) := s1.2.2.2 _ (by omega)
      have j10 : s.2.1 (m + 10) = r.2.1 (m + 10) := s1.2.2.2 _ (by omega)
      have e12 : s.2.2 m 12 = 1 := (oj 12 (by omega)).trans c8
      refine ok_neg (by rw [y1]; decide) (ok_wr 1 e12 (by omega) (by omega) (ok_wf (ok_some ⟨((l3.tr s1.lf).tr (Lf.w (by omega))).tr (Lf.f (by omega)), rfl, (y2.w (by omega) rfl).f (by omega), ?_, ?_⟩)))
      · refine ⟨⟨?_, ?_, ?_, ?_, ?_, ?_, ?_, ?_⟩, fun i hi => ?_, fun o ho => ?_, fun c hc => ?_⟩
        · dsimp only; rw [mst_row _ _ _ (by omega), mst_row _ _ _ (by omega), o1 _ (by omega) (by omega)]; exact c1
        · dsimp only; rw [mst_row _ _ _ (by omega), mst_row _ _ _ (by omega), o1 _ (by omega) (by omega)]; exact c2
        · dsimp only; rw [mst_row _ _ _ (by omega), mst_row _ _ _ (by omega), o1 _ (by omega) (by omega)]; exact c3
        · dsimp only; rw [mst_row _ _ _ (by omega), mst_row _ _ _ (by omega), s1.2.1 _ (by omega)]; exact e5
        · dsimp only; rw [mst_row _ _ _ (by omega), mst_self, y4]; rfl
        · dsimp only; rw [mst_ne _ _ (Or.inr (by omega)), mst_row _ _ _ (by omega), oj 24 (by omega)]; exact c6
        · dsimp only; rw [mst_self]; rfl
        · dsimp only; rw [mst_ne _ _ (Or.inr (by omega)), mst_row _ _ _ (by omega)]; exact e12
        · dsimp only; rw [j7, mst_row _ _ _ (by omega), mst_row _ _ _ (by omega), mst_row _ _ _ (by omega), mst_row _ _ _ (by omega), o1 _ (by omega) (by omega), o1 _ (by omega) (by omega)]; exact d1 i hi
        · dsimp only; rw [j10, mst_row _ _ _ (by omega), mst_row _ _ _ (by omega), o1 _ (by omega) (by omega)]; exact d2 o ho
        · dsimp only; rw [mst_row _ _ _ (by omega), mst_row _ _ _ (by omega), o1 _ (by omega) (by omega)]; exact d3 c hc
      · dsimp only; rw [mst_ne _ _ (Or.inr (by omega)), mst_row _ _ _ (by omega)]; exact y3
theorem ix10 {x : Int32} {k : Nat} (h : x = 1) : (10 * x) + nI k = nI (10 + k) := by rw [h, show (10 : Int32) * 1 = nI 10 from by decide, nI_add]
theorem ix16 {x : Int32} {k : Nat} (h : x = 1) : (16 * x) + nI k = nI (16 + k) := by rw [h, show (16 : Int32) * 1 = nI 16 from by decide, nI_add]
theorem it_m {K : MI} {t : Tk} {B : Bd} (hT : Tape K (m + 1) n bt) (hk : MK K J m n t) (hg : GK n t) (h9 : K m 9 = 0) (hB : MBd K J m B) (gB : GB B) (hI : bI B < 10) : Ok (f_X5_itemLine m J K) (fun r => MLO m n K r (pItm bt n t B)) := by
  unfold f_X5_itemLine pItm
  refine ok_bind (nn_m (J := J) hT hk hg h9 hB gB) (fun r hr => ?_)
  obtain ⟨f1, f3⟩ := hr
  cases hp : pW bt n t B with
  | inl F =>
    rw [hp] at f3
    exact ok_pos f3.1 (ok_some ⟨f1.lf, rfl, f3.2⟩)
  | inr q =>
    rw [hp] at f3
    obtain ⟨g1, g2, g3, g4⟩ := f3
    have gq := (pW_g hg hp).1
    have hB1 := f1.md hB
    obtain ⟨⟨c1, c2, c3, c4, c5, c6, c7, c8⟩, d1, d2, d3⟩ := id hB1
    refine ok_neg (by rw [g1]; decide) (ok_bs (rd_v 1 c8 (by omega) (by omega) c1) ?_)
    refine ok_bind (tn_m (J := r.2.1) (lo := 0) (hi := 99) (f1.tp hT) g2 gq g3 (by omega) (by omega)) (fun s hs => ?_)
    obtain ⟨s1, s2, s3⟩ := hs
    show Ok _ (fun r => MLO m n K r (pB (pN bt n 0 99 q.2) (fun w => pB (pN bt n 0 99 w.2) (fun y => .inr (y.2, bsItm B q.1 w.1 y.1)))))
    cases hp1 : pN bt n 0 99 q.2 with
    | inl F =>
      rw [hp1] at s3
      exact ok_pos s3.1 (ok_some ⟨(f1.tr s1).lf, rfl, s3.2⟩)
    | inr w =>
      rw [hp1] at s3
      obtain ⟨w1, w2, w3, w4⟩ := s3
      have gw := (pN_g gq hp1).1
      refine ok_neg (by rw [w1]; decide) (ok_wr (10 + bI B) (ix10 c8) (by omega) (by omega) ?_)
      generalize hK6 : mst s.2.2 (m + 8) (10 + bI B) (s.2.2 m 11) = K6
      have l6 : Lf m K K6 := by rw [← hK6]; exact (f1.tr s1).lf.tr (Lf.w (by omega))
      have k6 : MK K6 s.2.1 m n w.2 := by rw [← hK6]; exact w2.w (by omega) rfl
      have e6 : ∀ b, b ≠ m + 8 → K6 b = s.2.2 b := fun b hb => by rw [← hK6, mst_row _ _ _ hb]
      have r8 : K6 (m + 8) = pu (r.2.2 (m + 8)) (10 + bI B) (nI w.1) := by rw [← hK6, ms_r, w4, s1.2.1 _ (by omega)]
      refine ok_bind (tn_m (J := s.2.1) (lo := 0) (hi := 99) (l6.tp hT) k6 gw (by rw [e6 m (by omega)]; exact w3) (by omega) (by omega)) (fun z hz => ?_)
      obtain ⟨z1, z2, z3⟩ := hz
      show Ok _ (fun r => MLO m n K r (pB (pN bt n 0 99 w.2) (fun y => .inr (y.2, bsItm B q.1 w.1 y.1))))
      cases hp2 : pN bt n 0 99 w.2 with
      | inl F =>
        rw [hp2] at z3
        exact ok_pos z3.1 (ok_some ⟨l6.tr z1.lf, rfl, z3.2⟩)
      | inr y =>
        rw [hp2] at z3
        obtain ⟨y1, y2, y3, y4⟩ := z3
        have o1 : ∀ b, b ≠ m → b ≠ m + 8 → z.2.2 b = r.2.2 b := fun b h1 h2 => (z1.2.1 b h1).trans ((e6 b h2).trans (s1.2.1 b h1))
        have o8 : z.2.2 (m + 8) = pu (r.2.2 (m + 8)) (10 + bI B) (nI w.1) := (z1.2.1 _ (by omega)).trans r8
        have oj : ∀ j, 11 < j → z.2.2 m j = r.2.2 m j := fun j hj => (z1.1 j (by omega)).trans ((by rw [e6 m (by omega)] : K6 m j = s.2.2 m j).trans (s1.1 j (by omega)))
        have j7 : z.2.1 (m + 7) = r.2.1 (m + 7) := (z1.2.2.2 _ (by omega)).trans (s1.2.2.2 _ (by omega))
        have j10 : z.2.1 (m + 10) = r.2.1 (m + 10) := (z1.2.2.2 _ (by omega)).trans (s1.2.2.2 _ (by omega))
        have e12 : z.2.2 m 12 = 1 := (oj 12 (by omega)).trans c8
        refine ok_neg (by rw [y1]; decide) (ok_wr (10 + bI B) (ix10 c8) (by omega) (by omega) (ok_wr (10 + bI B) (ix10 c8) (by omega) (by omega) (ok_bs (rd_v (v := nI (bI B)) 1 (by rw [mst_row _ _ _ (by omega)]; exact e12) (by omega) (by omega) (by rw [mst_row _ _ _ (by omega), o1 _ (by omega) (by omega)]; exact c1)) (ok_wr 1 (by rw [mst_row _ _ _ (by omega)]; exact e12) (by omega) (by omega) (ok_some ⟨((l6.tr z1.lf).tr (Lf.w (by omega))).tr (Lf.w (by omega)), rfl, (y2.w (by omega) rfl).w (by omega) (mst_row _ _ _ (by omega)), ?_, ?_⟩)))))
        · refine ⟨⟨?_, ?_, ?_, ?_, ?_, ?_, ?_, ?_⟩, fun i hi => ?_, fun o ho => ?_, fun c hc => ?_⟩
          · dsimp only; rw [mst_self, nI_1]; rfl
          · dsimp only; rw [mst_row _ _ _ (by omega), mst_row _ _ _ (by omega), o1 _ (by omega) (by omega)]; exact c2
          · dsimp only; rw [mst_row _ _ _ (by omega), mst_row _ _ _ (by omega), o1 _ (by omega) (by omega)]; exact c3
          · dsimp only; rw [mst_row _ _ _ (by omega), mst_row _ _ _ (by omega), o1 _ (by omega) (by omega)]; exact c4
          · dsimp only; rw [mst_row _ _ _ (by omega), mst_row _ _ _ (by omega), o1 _ (by omega) (by omega)]; exact c5
          · dsimp only; rw [mst_row _ _ _ (by omega), mst_row _ _ _ (by omega), oj 24 (by omega)]; exact c6
          · dsimp only; rw [mst_row _ _ _ (by omega), mst_row _ _ _ (by omega), oj 25 (by omega)]; exact c7
          · dsimp only; rw [mst_row _ _ _ (by omega), mst_row _ _ _ (by omega)]; exact e12
          · have hi' : i < bI B + 1 := hi
            dsimp only
            rw [ms_r, j7, mst_row _ _ _ (by omega), mst_row _ _ _ (by omega), o8, mst_row _ _ _ (show m + 9 ≠ m + 2 by omega), ms_r, o1 (m + 9) (by omega) (by omega), y4, g4]
            show pu (r.2.1 (m + 7)) (10 + bI B) (lN q.1) (10 + i) = lN (pu (bNm B) (bI B) q.1 i) ∧ pu (r.2.2 (m + 8)) (10 + bI B) (nI w.1) (10 + i) = nI (pu (bP B) (bI B) w.1 i) ∧ pu (r.2.2 (m + 9)) (10 + bI B) (nI y.1) (10 + i) = nI (pu (bS B) (bI B) y.1 i)
            by_cases e : i = bI B
            · rw [e, pu_s, pu_s, pu_s, pu_s, pu_s, pu_s]
              exact ⟨rfl, rfl, rfl⟩
            · have e' : 10 + i ≠ 10 + bI B := by omega
              rw [pu_n e', pu_n e', pu_n e', pu_n e, pu_n e, pu_n e]
              exact d1 i (by omega)
          · dsimp only; rw [mst_row _ _ _ (by omega), j10, mst_row _ _ _ (by omega), mst_row _ _ _ (by omega), o1 _ (by omega) (by omega)]; exact d2 o ho
          · dsimp only; rw [mst_row _ _ _ (by omega), mst_row _ _ _ (by omega), o1 _ (by omega) (by omega)]; exact d3 c hc
        · dsimp only; rw [mst_row _ _ _ (by omega), mst_row _ _ _ (by omega)]; exact y3
end LnM
