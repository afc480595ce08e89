/-! the class's reader: lines and texts -/
def LL (o n u : Nat) (t : Tk) (I I' : MI) (R : Nat ⊕ (Tk × Bd)) : Prop := (∀ b, b ≠ o → b < u ∨ u + 10 ≤ b → I' b = I b) ∧ I' u 0 = I u 0 + 1 ∧ Sum.elim (fun F => I' o 6 = nI F ∧ 0 < F ∧ F < 2 ^ 20) (fun w => CK I' o n w.1 ∧ I' o 6 = 0 ∧ CBd I' u w.2 (bO w.2) ∧ GK n w.1 ∧ GB w.2 ∧ GN w.2 ∧ t.2.1 + 1 ≤ w.1.1) R
theorem CBd.ln {I : MI} {u k : Nat} {B : Bd} {v : Int32} (h : CBd I u B k) : CBd (mst I u 0 v) u B k := by
  refine h.fi (fun r h1 h2 => mst_row _ _ _ (by omega)) rfl rfl ?_
  obtain ⟨⟨c1, c2, c3, c4, c5, c6, c7⟩, _⟩ := h
  refine ⟨?_, ?_, ?_, ?_, ?_, ?_, ?_⟩ <;> (rw [mst_ne _ _ (Or.inr (by omega))]; assumption)
section Txt
variable {o a n u : Nat} {bt : Nat → Nat}
theorem cl_x (hoa : o ≠ a) (hou : o < u ∨ u + 10 ≤ o) (hau : a < u ∨ u + 10 ≤ a) {I I1 : MI} {t : Tk} {R : Nat ⊕ (Tk × Bd)} (hT : Tape I a n bt) (h : LOo o n u t I I1 R) : Ok ((f_X2_readClose o a I1).bind fun r6 => (wf r6 u 0 ((r6 u 0) + 1)).bind fun I7 => some I7) (fun I' => LL o n u t I I' (pB R (pCl bt n))) := by
  obtain ⟨h1, h2, h3⟩ := h
  have hT1 : Tape I1 a n bt := hT.fr (h1 a (fun q => hoa q.symm) hau)
  have stop : ∀ {F : Nat}, I1 o 6 = nI F → 0 < F → F < 2 ^ 20 → Ok ((f_X2_readClose o a I1).bind fun r6 => (wf r6 u 0 ((r6 u 0) + 1)).bind fun I7 => some I7) (fun I' => LL o n u t I I' (.inl F)) := by
    intro F q1 q2 q3
    have h6' : ¬ I1 o 6 = 0 := by rw [q1]; exact nI_ne0 q2 (by omega)
    refine ok_bs (rc_n h6') (ok_wf (ok_some ⟨fun b b1 b2 => by rw [mst_row _ _ _ (by omega)]; exact h1 b b1 b2, by rw [mst_self, h2], by rw [mst_row _ _ _ (by omega)]; exact q1, q2, q3⟩))
  cases R with
  | inl F => exact stop h3.1 h3.2.1 h3.2.2
  | inr w =>
    show Ok _ (fun I' => LL o n u t I I' (pCl bt n w))
    unfold pCl
    rcases h3 with ⟨w1, w2, w3, w4, w5, w6, w7⟩ | ⟨w1, w2, w3⟩
    · refine ok_bind (rc_c hoa hT1 w1 w4 w2) (fun I2 hI2 => ?_)
      obtain ⟨f2, z1, z2⟩ := hI2
      have h600 := hT.1
      have gt := gk_tok (bt := bt) w4.2.1
      by_cases c : w.1.2.2.1 = 3
      · rw [if_pos c]
        obtain ⟨y1, y2⟩ := z2 c
        have hlt := w4.2.2.2.2.2.1 (by omega)
        refine ok_wf (ok_some ⟨fun b b1 b2 => by rw [mst_row _ _ _ (by omega), f2 b b1]; exact h1 b b1 b2, by rw [mst_self, f2 u (by omega), h2], y1.fr (mst_row _ _ _ (by omega)), by rw [mst_row _ _ _ (by omega)]; exact y2, (w3.fr (fun r hr => f2 _ (by omega))).ln, gt.1, w5, w6, by have := gt.2; show t.2.1 + 1 ≤ (tok bt n w.1.2.1).1; omega⟩)
      · rw [if_neg c]
        have hle := w4.1
        have hln := w4.2.1
        refine ok_wf (ok_some ⟨fun b b1 b2 => by rw [mst_row _ _ _ (by omega), f2 b b1]; exact h1 b b1 b2, by rw [mst_self, f2 u (by omega), h2], by rw [mst_row _ _ _ (by omega)]; exact z1 c, by omega, by omega⟩)
    · rw [if_neg w1]
      exact stop w2 (by omega) w3
theorem rl_c (hoa : o ≠ a) (hou : o < u ∨ u + 10 ≤ o) (hau : a < u ∨ u + 10 ≤ a) {I : MI} {t : Tk} {B : Bd} (hT : Tape I a n bt) (hk : CK I o n t) (hg : GK n t) (h6 : I o 6 = 0) (hB : CBd I u B (bO B)) (gB : GB B) (gN : GN B) : Ok (f_X2_readLine o a u I) (fun I' => LL o n u t I I' (pLn bt n t B)) := by
  have h600 := hT.1
  obtain ⟨g1, g2, g3, g4, g5, g6, g7⟩ := id hg
  obtain ⟨k1, k2, k3, k4, k5⟩ := id hk
  obtain ⟨b1, b2, b3, b4, b5, b6, b7, b8, b9⟩ := id gB
  have flt : ∀ {k : Nat}, 0 < k → k < 9 → LOo o n u t I (mst I o 6 (nI (8 * t.1 + k))) (.inl (8 * t.1 + k)) := fun h1 h2 => ⟨fun b hb _ => mst_row _ _ _ hb, by rw [mst_row _ _ _ (by omega)], mst_self _ _ _ _, by omega, by omega⟩
  have run : ∀ {R : Nat ⊕ (Tk × Bd)} {x : Option MI}, Ok x (fun I' => LOo o n u t I I' R) → Ok (x.bind fun r5 => (f_X2_readClose o a r5).bind fun r6 => (wf r6 u 0 ((r6 u 0) + 1)).bind fun I7 => some I7) (fun I' => LL o n u t I I' (pB R (pCl bt n))) := fun h => ok_bind h (fun I1 h1 => cl_x hoa hou hau hT h1)
  unfold f_X2_readLine pLn wht
  have hp3 : (if I o 3 = 1 then some (I o 5) else some 0) = some (if t.2.2.1 = 1 then nI t.2.2.2 else 0) := by
    by_cases c : t.2.2.1 = 1
    · rw [if_pos c]
      exact it_p (by rw [k3, c]; rfl) (by rw [k5])
    · rw [if_neg c]
      exact it_n (fun q => c ((nI_eq (b := 1) (by omega) (by omega)).mp (k3.symm.trans q))) rfl
  refine ok_bs hp3 ?_
  have ne : ∀ v : Nat, v < 2 ^ 31 → (nI t.2.2.2 = nI v ↔ t.2.2.2 = v) := fun v hv => nI_eq (by omega) hv
  by_cases c0 : t.2.2.1 = 1
  · rw [if_pos c0, if_pos c0]
    by_cases v2 : t.2.2.2 = 315565
    · rw [v2]
      refine ok_pos rfl ?_
      rw [if_neg (by decide), if_neg (by decide), if_pos (by decide)]
      by_cases c : bI B < 10
      · rw [if_pos c]
        exact run ((it_l hoa hou hau hT hk hg h6 hB gB gN c).im (fun _ h => h.oo))
      · rw [if_neg c]
        refine run (R := .inl (8 * t.1 + 5)) ?_
        unfold f_X2_readItem
        exact ok_neg (by rw [hB.1.2.2.2.2.2.1]; exact nI_nlt (b := 10) (by omega) (by omega)) (ok_bs (fa_c (k := 5) hk h6) (ok_some (flt (by omega) (by omega))))
    · refine ok_neg (fun q => v2 ((ne 315565 (by omega)).mp q)) ?_
      by_cases v1 : t.2.2.2 = 755397
      · rw [v1]
        refine ok_pos rfl ?_
        rw [if_neg (by decide), if_pos (by decide)]
        by_cases c : bWt B = 0
        · rw [if_pos c]
          exact run ((wa_l hoa hou hau hT hk hg h6 hB gB gN c).im (fun _ h => h.oo))
        · rw [if_neg c]
          refine run (R := .inl (8 * t.1 + 2)) ?_
          unfold f_X2_readWave
          exact ok_neg (by rw [hB.1.2.2.2.2.1]; exact nI_ne0 (by omega) (by omega)) (ok_bs (fa_c (k := 2) hk h6) (ok_some (flt (by omega) (by omega))))
      · refine ok_neg (fun q => v1 ((ne 755397 (by omega)).mp q)) ?_
        by_cases v0 : t.2.2.2 = 8892595
        · rw [v0]
          refine ok_pos rfl ?_
          rw [if_pos (by decide)]
          by_cases c : bHt B = 0
          · rw [if_pos c]
            exact run ((ho_l hoa hou hau hT hk hg h6 hB gB gN c).im (fun _ h => h.oo))
          · rw [if_neg c]
            refine run (R := .inl (8 * t.1 + 2)) ?_
            unfold f_X2_readHoles
            exact ok_neg (by rw [hB.1.2.1]; exact nI_ne0 (by omega) (by omega)) (ok_bs (fa_c (k := 2) hk h6) (ok_some (flt (by omega) (by omega))))
        · refine ok_neg (fun q => v0 ((ne 8892595 (by omega)).mp q)) ?_
          by_cases v3 : t.2.2.2 = 16322738
          · rw [v3]
            refine ok_pos rfl ?_
            rw [if_neg (by decide), if_neg (by decide), if_neg (by decide), if_pos (by decide)]
            by_cases c : bO B < 16
            · rw [if_pos c]
              exact run (or_l hoa hou hau hT hk hg h6 hB gB gN c)
            · rw [if_neg c]
              refine run (R := .inl (8 * t.1 + 5)) ?_
              unfold f_X2_readOrder
              exact ok_neg (by rw [hB.1.2.2.2.2.2.2]; exact nI_nlt (b := 16) (by omega) (by omega)) (ok_bs (fa_c (k := 5) hk h6) (ok_some (flt (by omega) (by omega))))
          · refine ok_neg (fun q => v3 ((ne 16322738 (by omega)).mp q)) ?_
            have hw : (if t.2.2.2 = 8892595 then 0 else if t.2.2.2 = 755397 then 1 else if t.2.2.2 = 315565 then 2 else if t.2.2.2 = 16322738 then 3 else 4) = 4 := by rw [if_neg v0, if_neg v1, if_neg v2, if_neg v3]
            rw [hw, if_neg (by decide), if_neg (by decide), if_neg (by decide), if_neg (by decide)]
            exact run (R := .inl (8 * t.1 + 1)) (Ok.mk (fa_c (k := 1) hk h6) (flt (by omega) (by omega)))
  · rw [if_neg c0, if_neg c0]
    refine ok_neg (by decide) (ok_neg (by decide) (ok_neg (by decide) (ok_neg (by decide) ?_)))
    rw [if_neg (by decide), if_neg (by decide), if_neg (by decide), if_neg (by decide)]
    exact run (R := .inl (8 * t.1 + 1)) (Ok.mk (fa_c (k := 1) hk h6) (flt (by omega) (by omega)))
end Txt
/-- all lines -/
def pRd (bt : Nat → Nat) (n : Nat) : Nat → Tk → Bd → Nat → Nat ⊕ (Bd × Nat)
  | 0, _, B, k => .inr (B, k)
  | f + 1, t, B, k => if t.2.2.1 = 0 then .inr (B, k) else pB (pLn bt n t B) (fun w => pRd bt n f w.1 w.2 (k + 1))
def B0 : Bd := ((0, 0, 4, 4, 30, 0, 0), fun _ => 0, fun _ => 0, fun _ => 0, fun _ => 0, fun _ => 0, fun _ => 0)
def pAll (bt : Nat → Nat) (n : Nat) : Nat ⊕ (Bd × Nat) := pRd bt n 601 (tok bt n 0) B0 0
theorem gb_0 : GB B0 ∧ GN B0 := by
  refine ⟨⟨by decide, by decide, by decide, by decide, by decide, fun i hi => absurd hi (Nat.not_lt_zero _), fun p hp => absurd hp (Nat.not_lt_zero _), by decide, by decide⟩, fun c hc => ⟨Nat.zero_le _, fun _ => rfl⟩, fun p hp => absurd hp (Nat.not_lt_zero _)⟩
section Txt2
variable {o a n u : Nat} {bt : Nat → Nat}
theorem rd_l (hoa : o ≠ a) (hou : o < u ∨ u + 10 ≤ o) (hau : a < u ∨ u + 10 ≤ a) : ∀ (f k : Nat) (I : MI) (t : Tk) (B : Bd), k + f = 601 → Tape I a n bt → CK I o n t → GK n t → I o 6 = 0 → CBd I u B (bO B) → GB B → GN B → (t.2.2.1 ≠ 0 → k + 1 ≤ t.2.1) → I u 0 = nI k → Ok (lp (b_X2_read_36 o a u) (nI k, I)) (fun s => (∀ b, b ≠ o → b < u ∨ u + 10 ≤ b → s.2 b = I b) ∧ Sum.elim (fun F => s.2 o 6 = nI F ∧ 0 < F ∧ F < 2 ^ 20) (fun y => s.2 o 6 = 0 ∧ CBd s.2 u y.1 (bO y.1) ∧ s.2 u 0 = nI y.2 ∧ GB y.1 ∧ GN y.1) (pRd bt n f t B k)) := by
  intro f
  induction f with
  | zero =>
    intro k I t B hk hT hc hg h6 hB gB gN hp h0
    exact Ok.mk (lp_done (it_n (nI_nlt (b := 600) (by omega) (by omega)) rfl)) ⟨fun _ _ _ => rfl, h6, hB, h0, gB, gN⟩
  | succ f ih =>
    intro k I t B hk hT hc hg h6 hB gB gN hp h0
    have h600 := hT.1
    rw [pRd]
    by_cases c : t.2.2.1 = 0
    · rw [if_pos c]
      refine Ok.mk (r := (nI k, I)) (lp_done ?_) ⟨fun _ _ _ => rfl, h6, hB, h0, gB, gN⟩
      by_cases k6 : k < 600
      · exact it_p (nI_lt (b := 600) k6 (by omega)) (it_p h6 (it_p (by dsimp only; rw [hc.2.2.1, c]; rfl) rfl))
      · exact it_n (nI_nlt (b := 600) (by omega) (by omega)) rfl
    · rw [if_neg c]
      have hp' := hp c
      have hln := hg.2.1
      have hk4 := hg.2.2.1
      obtain ⟨I1, hI1, l1, l2, l3⟩ := rl_c hoa hou hau hT hc hg h6 hB gB gN
      have st : b_X2_read_36 o a u (nI k, I) = some (.inl (nI (k + 1), I1)) := by
        refine it_p (nI_lt (b := 600) (by omega) (by omega)) (it_p h6 (it_n (fun q => c ((nI_eq (b := 0) (by omega) (by omega)).mp (hc.2.2.1.symm.trans q))) (bnd_s hI1 ?_)))
        rw [nI_1]
      cases hpl : pLn bt n t B with
      | inl F =>
        rw [hpl] at l3
        have h6' : ¬ I1 o 6 = 0 := by rw [l3.1]; exact nI_ne0 l3.2.1 (by have := l3.2.2; omega)
        refine ok_next st (Ok.mk (r := (nI (k + 1), I1)) (lp_done ?_) ⟨l1, l3⟩)
        by_cases k6 : k + 1 < 600
        · exact it_p (nI_lt (b := 600) k6 (by omega)) (it_n h6' rfl)
        · exact it_n (nI_nlt (b := 600) (by omega) (by omega)) rfl
      | inr w =>
        rw [hpl] at l3
        obtain ⟨w1, w2, w3, w4, w5, w6, w7⟩ := l3
        refine ok_next st ((ih (k + 1) I1 w.1 w.2 (by omega) (hT.fr (l1 a (fun q => hoa q.symm) hau)) w1 w4 w2 w3 w5 w6 (fun q => ?_) (by rw [l2, h0, nI_1])).im (fun s hs => ⟨fun b h1 h2 => (hs.1 b h1 h2).trans (l1 b h1 h2), hs.2⟩))
        have := w4.2.2.2.2.2.1 q
        omega
theorem clr_c {I : MI} : Ok (f_X3_clear u I) (fun I' => CBd I' u B0 0 ∧ I' u 0 = 0 ∧ ∀ b, b < u ∨ u + 10 ≤ b → I' b = I b) := by
  unfold f_X3_clear
  refine ok_wq (fun I1 h1 => ok_wq (fun I2 h2 => ok_wq (fun I3 h3 => ok_wq (fun I4 h4 => ok_wq (fun I5 h5 => ok_wq (fun I6 h6 => ok_wq (fun I7 h7 => ok_wq (fun I8 h8 => ok_bs (fl_s (by omega)) (ok_bs (fl_s (by omega)) (ok_bs (fl_s (by omega)) (ok_some ?_)))))))))))
  have ef : ∀ b, b ≠ u → I8 b = I b := fun b hb => by rw [h8, mst_row _ _ _ hb, h7, mst_row _ _ _ hb, h6, mst_row _ _ _ hb, h5, mst_row _ _ _ hb, h4, mst_row _ _ _ hb, h3, mst_row _ _ _ hb, h2, mst_row _ _ _ hb, h1, mst_row _ _ _ hb]
  generalize hM : sr (sr (sr I8 (u + 6) (ffl (I8 (u + 6)) 0 160 (fun _ => 0))) (u + 7) (ffl (sr I8 (u + 6) (ffl (I8 (u + 6)) 0 160 (fun _ => 0)) (u + 7)) 0 16 (fun _ => 0))) (u + 8) (ffl (sr (sr I8 (u + 6) (ffl (I8 (u + 6)) 0 160 (fun _ => 0))) (u + 7) (ffl (sr I8 (u + 6) (ffl (I8 (u + 6)) 0 160 (fun _ => 0)) (u + 7)) 0 16 (fun _ => 0)) (u + 8)) 0 16 (fun _ => 0)) = M
  have m6 : ∀ c, c < 160 → M (u + 6) c = 0 := fun c hc => by
    rw [← hM, sr_o (by omega), sr_o (by omega), sr_s]
    have := ffl_i (R := I8 (u + 6)) (off := 0) (g := fun _ => (0 : Int32)) hc
    rw [Nat.zero_add] at this
    exact this
  have m7 : ∀ c, c < 16 → M (u + 7) c = 0 := fun c hc => by
    rw [← hM, sr_o (by omega), sr_s]
    have := ffl_i (R := sr I8 (u + 6) (ffl (I8 (u + 6)) 0 160 (fun _ => 0)) (u + 7)) (off := 0) (g := fun _ => (0 : Int32)) hc
    rw [Nat.zero_add] at this
    exact this
  have m8 : ∀ c, c < 16 → M (u + 8) c = 0 := fun c hc => by
    rw [← hM, sr_s]
    have := ffl_i (R := sr (sr I8 (u + 6) (ffl (I8 (u + 6)) 0 160 (fun _ => 0))) (u + 7) (ffl (sr I8 (u + 6) (ffl (I8 (u + 6)) 0 160 (fun _ => 0)) (u + 7)) 0 16 (fun _ => 0)) (u + 8)) (off := 0) (g := fun _ => (0 : Int32)) hc
    rw [Nat.zero_add] at this
    exact this
  have mo : ∀ b, b ≠ u + 6 → b ≠ u + 7 → b ≠ u + 8 → M b = I8 b := fun b b6 b7 b8 => by rw [← hM, sr_o b8, sr_o b7, sr_o b6]
  have mu : M u = I8 u := mo u (by omega) (by omega) (by omega)
  refine ⟨⟨⟨?_, ?_, ?_, ?_, ?_, ?_, ?_⟩, fun i hi => absurd hi (Nat.not_lt_zero _), fun p hp => absurd hp (Nat.not_lt_zero _), fun c hc => ?_, fun p hp => ⟨?_, ?_⟩, fun _ => 0, ⟨fun e he => absurd he (Nat.not_lt_zero _), fun e e' _ he => absurd he (Nat.not_lt_zero _), fun p hp => absurd hp (Nat.not_lt_zero _)⟩, fun e he => absurd he (Nat.not_lt_zero _)⟩, ?_, fun b hb => by rw [mo b (by omega) (by omega) (by omega)]; exact ef b (by omega)⟩
  · rw [mu, h8, mst_ne _ _ (Or.inr (by omega)), h7, mst_ne _ _ (Or.inr (by omega)), h6, mst_ne _ _ (Or.inr (by omega)), h5, mst_ne _ _ (Or.inr (by omega)), h4, mst_ne _ _ (Or.inr (by omega)), h3, mst_ne _ _ (Or.inr (by omega)), h2, mst_self]; rfl
  · rw [mu, h8, mst_ne _ _ (Or.inr (by omega)), h7, mst_ne _ _ (Or.inr (by omega)), h6, mst_ne _ _ (Or.inr (by omega)), h5, mst_ne _ _ (Or.inr (by omega)), h4, mst_ne _ _ (Or.inr (by omega)), h3, mst_self]; rfl
  · rw [mu, h8, mst_ne _ _ (Or.inr (by omega)), h7, mst_ne _ _ (Or.inr (by omega)), h6, mst_ne _ _ (Or.inr (by omega)), h5, mst_ne _ _ (Or.inr (by omega)), h4, mst_self]; rfl
  · rw [mu, h8, mst_ne _ _ (Or.inr (by omega)), h7, mst_ne _ _ (Or.inr (by omega)), h6, mst_ne _ _ (Or.inr (by omega)), h5, mst_self]; rfl
  · rw [mu, h8, mst_ne _ _ (Or.inr (by omega)), h7, mst_ne _ _ (Or.inr (by omega)), h6, mst_self]; rfl
  · rw [mu, h8, mst_ne _ _ (Or.inr (by omega)), h7, mst_self]; rfl
  · rw [mu, h8, mst_self]; rfl
  · rw [m6 c hc]; rfl
  · rw [m7 p hp, show sm (bN B0) (10 * p) 10 = 0 from sm_z (fun _ _ => rfl)]; rfl
  · rw [m8 p hp]
    have : bs (fun i => decide (0 < bN B0 (10 * p + i))) 10 = 0 := by
      refine Nat.eq_of_testBit_eq (fun j => ?_)
      rw [bs_t, Nat.zero_testBit]
      show (decide (j < 10) && decide (0 < 0)) = false
      simp
    rw [this]
    rfl
  · rw [mu, h8, mst_ne _ _ (Or.inr (by omega)), h7, mst_ne _ _ (Or.inr (by omega)), h6, mst_ne _ _ (Or.inr (by omega)), h5, mst_ne _ _ (Or.inr (by omega)), h4, mst_ne _ _ (Or.inr (by omega)), h3, mst_ne _ _ (Or.inr (by omega)), h2, mst_ne _ _ (Or.inr (by omega)), h1, mst_self]
theorem rd_c (hoa : o ≠ a) (hou : o < u ∨ u + 10 ≤ o) (hau : a < u ∨ u + 10 ≤ a) {z : Sh} {I : MI} (hT : Tape I a n bt) (g1 : oX2 (zSt z o 0 (some a)) o a) (g2 : oX3 (zSt z o 0 (some a)) u) (g3 : a ∈ zL z ∧ zK z a = 6 ∧ zn z a = 600) : Ok (f_X2_read o a 600 (nI n) u z I) (fun r => r.2.1 = zSt z o 0 (some a) ∧ (∀ b, b ≠ o → b < u ∨ u + 10 ≤ b → r.2.2 b = I b) ∧ Sum.elim (fun F => r.1 = nI F ∧ 0 < F ∧ F < 2 ^ 20) (fun y => r.1 = 0 ∧ CBd r.2.2 u y.1 (bO y.1) ∧ r.2.2 u 0 = nI y.2 ∧ GB y.1 ∧ GN y.1) (pAll bt n)) := by
  have h600 := hT.1
  unfold f_X2_read
  refine ok_nm (ok_gd g1 (ok_gd g2 (ok_gd g3 (ok_wq (fun I5 h5 => ok_wq (fun I6 h6 => ok_wq (fun I7 h7 => ?_)))))))
  have e1 : I7 o 1 = nI n := by
    rw [h7, mst_ne _ _ (Or.inr (by omega)), h6, mst_ne _ _ (Or.inr (by omega)), h5, mst_self]
    show imin (nI n) (nI 600) = nI n
    rw [imin_n (by omega) (by omega), Nat.min_eq_left h600]
  have e2 : I7 o 2 = nI 0 := by rw [h7, mst_ne _ _ (Or.inr (by omega)), h6, mst_self]; rfl
  have e6 : I7 o 6 = 0 := by rw [h7, mst_self]
  have ef : ∀ b, b ≠ o → I7 b = I b := fun b hb => by rw [h7, mst_row _ _ _ hb, h6, mst_row _ _ _ hb, h5, mst_row _ _ _ hb]
  refine ok_bind (clr_c (u := u) (I := I7)) (fun I8 h8 => ?_)
  obtain ⟨c1, c2, c3⟩ := h8
  refine ok_bind (ad_c (p := 0) hoa (hT.fr ((c3 a hau).trans (ef a (fun q => hoa q.symm)))) (by omega) (by rw [c3 o hou]; exact e1) (by rw [c3 o hou]; exact e2) (by rw [c3 o hou]; exact e6)) (fun I9 h9 => ?_)
  obtain ⟨d1, d2, d3⟩ := h9
  have gt := gk_tok (bt := bt) (show 0 ≤ n by omega)
  refine ok_bind (rd_l hoa hou hau 601 0 I9 (tok bt n 0) B0 (by omega) (hT.fr (((d3 a (fun q => hoa q.symm)).trans (c3 a hau)).trans (ef a (fun q => hoa q.symm)))) d1 gt.1 d2 (c1.fr (fun r hr => d3 _ (by omega))) gb_0.1 gb_0.2 (fun q => by have := gt.1.2.2.2.2.2.1 q; omega) (by rw [d3 u (by omega), c2]; rfl)) (fun s hs => ok_some ⟨rfl, fun b h1 h2 => ?_, ?_⟩)
  · rw [hs.1 b h1 h2, d3 b h1, c3 b h2]
    exact ef b h1
  · have h3 := hs.2
    change Sum.elim _ _ (pAll bt n) at h3
    generalize pAll bt n = R at h3 ⊢
    cases R with
    | inl F => exact h3
    | inr y => exact h3
end Txt2
