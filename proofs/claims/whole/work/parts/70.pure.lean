/-! what the lines leave can be -/
section Pg
variable {bt : Nat → Nat} {n : Nat}
theorem pB_i {α β : Type} {x : Nat ⊕ α} {f : α → Nat ⊕ β} {y : β} (h : pB x f = .inr y) : ∃ a, x = .inr a ∧ f a = .inr y := by
  cases x with
  | inl F => cases h
  | inr a => exact ⟨a, rfl, h⟩
theorem pN_g {lo hi : Nat} {t : Tk} {w : Nat × Tk} (hg : GK n t) (h : pN bt n lo hi t = .inr w) : GK n w.2 ∧ lo ≤ w.1 ∧ w.1 ≤ hi ∧ t.2.1 ≤ w.2.1 := by
  unfold pN at h
  split at h
  · split at h
    · cases h
    · rename_i c
      cases h
      have gt := gk_tok (bt := bt) hg.2.1
      exact ⟨gt.1, by dsimp only; omega, by dsimp only; omega, gt.2⟩
  · cases h
theorem pW_g {t : Tk} {B : Bd} {w : Nat × Tk} (hg : GK n t) (h : pW bt n t B = .inr w) : GK n w.2 ∧ w.1 < 2 ^ 30 ∧ t.2.1 ≤ w.2.1 := by
  unfold pW at h
  split at h
  · split at h
    · cases h
    · cases h
      have gt := gk_tok (bt := bt) hg.2.1
      exact ⟨gt.1, hg.2.2.2.1, gt.2⟩
  · cases h
def GL (n : Nat) (t : Tk) (w : Tk × Bd) : Prop := GK n w.1 ∧ GB w.2 ∧ GN w.2 ∧ t.2.1 ≤ w.1.1
theorem pHol_g {t : Tk} {B : Bd} {w : Tk × Bd} (hg : GK n t) (gB : GB B) (gN : GN B) (h : pHol bt n t B = .inr w) : GL n t w := by
  obtain ⟨v, h1, h2⟩ := pB_i h
  obtain ⟨a1, a2, a3, a4⟩ := pN_g hg h1
  cases h2
  obtain ⟨q1, q2, q3, q4, q5, q6, q7, q8, q9⟩ := gB
  exact ⟨a1, ⟨q1, q2, ⟨a2, a3⟩, q4, q5, q6, q7, Nat.le_refl _, q9⟩, gN, a4⟩
theorem pWav_g {t : Tk} {B : Bd} {w : Tk × Bd} (hg : GK n t) (gB : GB B) (gN : GN B) (h : pWav bt n t B = .inr w) : GL n t w := by
  obtain ⟨v, h1, h2⟩ := pB_i h
  obtain ⟨a1, a2, a3, a4⟩ := pN_g hg h1
  obtain ⟨y, h3, h4⟩ := pB_i h2
  obtain ⟨b1, b2, b3, b4⟩ := pN_g a1 h3
  cases h4
  obtain ⟨q1, q2, q3, q4, q5, q6, q7, q8, q9⟩ := gB
  have := a1.1
  exact ⟨b1, ⟨q1, q2, q3, ⟨a2, a3⟩, ⟨b2, b3⟩, q6, q7, q8, Nat.le_refl _⟩, gN, by dsimp only; omega⟩
theorem pItm_g {t : Tk} {B : Bd} {w : Tk × Bd} (hg : GK n t) (gB : GB B) (gN : GN B) (hI : bI B < 10) (h : pItm bt n t B = .inr w) : GL n t w := by
  obtain ⟨q, h1, h2⟩ := pB_i h
  obtain ⟨a1, a2, a3⟩ := pW_g hg h1
  obtain ⟨v, h3, h4⟩ := pB_i h2
  obtain ⟨b1, b2, b3, b4⟩ := pN_g a1 h3
  obtain ⟨y, h5, h6⟩ := pB_i h4
  obtain ⟨c1, c2, c3, c4⟩ := pN_g b1 h5
  cases h6
  have := a1.1
  have := b1.1
  refine ⟨c1, ?_, ?_, by dsimp only; omega⟩
  · obtain ⟨p1, p2, p3, p4, p5, p6, p7, p8, p9⟩ := gB
    refine ⟨by show bI B + 1 ≤ 10; omega, p2, p3, p4, p5, fun i hi => ?_, p7, p8, p9⟩
    have hi' : i < bI B + 1 := hi
    show pu (bP B) (bI B) v.1 i ≤ 99 ∧ pu (bS B) (bI B) y.1 i ≤ 99 ∧ pu (bNm B) (bI B) q.1 i < 2 ^ 30
    by_cases e : i = bI B
    · rw [e, pu_s, pu_s, pu_s]
      exact ⟨b3, c3, a2⟩
    · rw [pu_n e, pu_n e, pu_n e]
      exact p6 i (by omega)
  · refine ⟨fun c hc => ⟨(gN.1 c hc).1, fun h => (gN.1 c hc).2 ?_⟩, gN.2⟩
    rcases h with h | h
    · exact Or.inl h
    · have h' : bI B + 1 ≤ c % 10 := h
      exact Or.inr (by omega)
theorem pUn_g {t : Tk} {B : Bd} {q k : Nat} {w : Tk × Bd} (hg : GK n t) (gB : GB B) (gN : GNq B q k) (hq : bO B = q) (h16 : q < 16) (h : pUn bt n t B q k = .inr w) : GK n w.1 ∧ GB w.2 ∧ GNq w.2 q (k + 1) ∧ bO w.2 = q ∧ t.2.1 ≤ w.1.1 ∧ k < 6 := by
  unfold pUn at h
  split at h
  · split at h
    · rename_i c2
      split at h
      · rename_i c3
        split at h
        · rename_i c4
          obtain ⟨v, h1, h2⟩ := pB_i h
          have gt := gk_tok (bt := bt) hg.2.1
          obtain ⟨a1, a2, a3, a4⟩ := pN_g gt.1 h1
          cases h2
          have := gB.1
          have := gt.1.1
          exact ⟨a1, gB, gnq_s gN h16 (by omega) c2 c3 a2 a3 c4, hq, by have := gt.2; dsimp only; omega, c4⟩
        · cases h
      · cases h
    · cases h
  · cases h
theorem pUs_g {q : Nat} (h16 : q < 16) : ∀ (f : Nat) (t : Tk) (B : Bd) (k : Nat) (w : Tk × Bd), GK n t → GB B → GNq B q k → bO B = q → pUs bt n f t B q k = .inr w → GK n w.1 ∧ GB w.2 ∧ (∃ kk, 0 < kk ∧ GNq w.2 q kk) ∧ bO w.2 = q ∧ t.2.1 ≤ w.1.1 := by
  intro f
  induction f with
  | zero => intro t B k w _ _ _ _ h; cases h
  | succ f ih =>
    intro t B k w hg gB gN hq h
    rw [pUs] at h
    obtain ⟨y, h1, h2⟩ := pB_i h
    obtain ⟨a1, a2, a3, a4, a5, a6⟩ := pUn_g hg gB gN hq h16 h1
    by_cases c : y.1.2.2.1 = 1
    · rw [if_pos c] at h2
      obtain ⟨b1, b2, b3, b4, b5⟩ := ih _ _ _ _ a1 a2 a3 a4 h2
      have := a1.1
      exact ⟨b1, b2, b3, b4, by omega⟩
    · rw [if_neg c] at h2
      cases h2
      exact ⟨a1, a2, ⟨k + 1, by omega, a3⟩, a4, a5⟩
theorem gb_q {B : Bd} {q d : Nat} (gB : GB B) : GB (bsQ B q d) := by
  obtain ⟨p1, p2, p3, p4, p5, p6, p7, p8, p9⟩ := gB
  refine ⟨p1, p2, p3, p4, p5, p6, fun p hp => ?_, p8, p9⟩
  have hp' : p < bO B := hp
  show pu (bD B) (bO B) d p ≤ 99 ∧ pu (bQ B) (bO B) q p < 2 ^ 30
  rw [pu_n (by omega), pu_n (by omega)]
  exact p7 p hp'
theorem pOrd_g {t : Tk} {B : Bd} {w : Tk × Bd} (hg : GK n t) (gB : GB B) (gN : GN B) (hO : bO B < 16) (h : pOrd bt n t B = .inr w) : GL n t w := by
  obtain ⟨q, h1, h2⟩ := pB_i h
  obtain ⟨a1, a2, a3⟩ := pW_g hg h1
  obtain ⟨d, h3, h4⟩ := pB_i h2
  obtain ⟨b1, b2, b3, b4⟩ := pN_g a1 h3
  obtain ⟨y, h5, h6⟩ := pB_i h4
  obtain ⟨c1, c2, ⟨kk, c3, c4⟩, c5, c6⟩ := pUs_g hO _ _ _ _ _ b1 (gb_q gB) (gnq_0 gN hO) rfl h5
  have hk := pUs_k _ _ _ _ _ h5
  cases h6
  have := a1.1
  have := b1.1
  refine ⟨c1, ?_, ?_, by dsimp only; omega⟩
  · obtain ⟨p1, p2, p3, p4, p5, p6, p7, p8, p9⟩ := c2
    refine ⟨p1, by show bO y.2 + 1 ≤ 16; omega, p3, p4, p5, p6, fun p hp => ?_, p8, p9⟩
    have hp' : p < bO y.2 + 1 := hp
    by_cases c : p < bO y.2
    · exact p7 p c
    · have hpe : p = bO B := by omega
      show bD y.2 p ≤ 99 ∧ bQ y.2 p < 2 ^ 30
      rw [hk.1, hk.2, hpe]
      show pu (bD B) (bO B) d.1 (bO B) ≤ 99 ∧ pu (bQ B) (bO B) q.1 (bO B) < 2 ^ 30
      rw [pu_s, pu_s]
      exact ⟨b3, a2⟩
  · rw [← c5] at c4
    exact gn_of c4 c3
theorem pLn_g {t : Tk} {B : Bd} {w : Tk × Bd} (hg : GK n t) (gB : GB B) (gN : GN B) (h : pLn bt n t B = .inr w) : GK n w.1 ∧ GB w.2 ∧ GN w.2 ∧ t.2.1 + 1 ≤ w.1.1 := by
  have gt := gk_tok (bt := bt) hg.2.1
  have cl : ∀ {R : Nat ⊕ (Tk × Bd)}, (∀ y, R = .inr y → GL n (tok bt n t.2.1) y) → pB R (pCl bt n) = .inr w → GK n w.1 ∧ GB w.2 ∧ GN w.2 ∧ t.2.1 + 1 ≤ w.1.1 := by
    intro R hR hc
    obtain ⟨y, h1, h2⟩ := pB_i hc
    obtain ⟨a1, a2, a3, a4⟩ := hR y h1
    unfold pCl at h2
    split at h2
    · rename_i c
      cases h2
      have g2 := gk_tok (bt := bt) a1.2.1
      have := a1.2.2.2.2.2.1 (by omega)
      have := gt.1.1
      exact ⟨g2.1, a2, a3, by have := g2.2; have := gt.2; dsimp only; omega⟩
    · cases h2
  unfold pLn at h
  split at h
  · split at h
    · exact cl (fun y hy => pHol_g gt.1 gB gN hy) h
    · cases h
  · split at h
    · split at h
      · exact cl (fun y hy => pWav_g gt.1 gB gN hy) h
      · cases h
    · split at h
      · split at h
        · rename_i c
          exact cl (fun y hy => pItm_g gt.1 gB gN c hy) h
        · cases h
      · split at h
        · split at h
          · rename_i c
            exact cl (fun y hy => pOrd_g gt.1 gB gN c hy) h
          · cases h
        · cases h
end Pg
