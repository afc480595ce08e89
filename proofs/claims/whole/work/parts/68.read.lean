/-! the class's reader: orders, lines, the whole text -/
def insE (E : Nat → Nat) (k n e : Nat) : Nat := if e < n then E e else if e = n then k else E (e - 1)
theorem eo_ins {D E : Nat → Nat} {k n d : Nat} (h : EO D E k) (hn : n ≤ k) (h1 : ∀ e, n ≤ e → e < k → d < D (E e)) (h2 : n = 0 ∨ D (E (n - 1)) ≤ d) : EO (pu D k d) (insE E k n) (k + 1) := by
  obtain ⟨p1, p2, p3⟩ := h
  have Dk : ∀ e, e < k → pu D k d (E e) = D (E e) := fun e he => pu_n (by have := p1 e he; omega)
  refine ⟨fun e he => ?_, fun e e' hlt he' => ?_, fun o ho => ?_⟩
  · unfold insE
    by_cases a : e < n
    · rw [if_pos a]; have := p1 e (by omega); omega
    · rw [if_neg a]
      by_cases b : e = n
      · rw [if_pos b]; omega
      · rw [if_neg b]; have := p1 (e - 1) (by omega); omega
  · unfold insE
    by_cases a' : e' < n
    · rw [if_pos a', if_pos (show e < n by omega), Dk e (by omega), Dk e' (by omega)]
      exact p2 e e' hlt (by omega)
    · rw [if_neg a']
      by_cases b' : e' = n
      · rw [if_pos b', if_pos (show e < n by omega), pu_s, Dk e (by omega)]
        have hE := p1 e (by omega)
        have hle : D (E e) ≤ d := by
          rcases h2 with q | q
          · omega
          · by_cases c : e = n - 1
            · rw [c]; exact q
            · have := p2 e (n - 1) (by omega) (by omega)
              omega
        omega
      · rw [if_neg b', Dk (e' - 1) (by omega)]
        by_cases a : e < n
        · rw [if_pos a, Dk e (by omega)]
          exact p2 e (e' - 1) (by omega) (by omega)
        · rw [if_neg a]
          by_cases b : e = n
          · rw [if_pos b, pu_s]
            exact Or.inl (h1 (e' - 1) (by omega) (by omega))
          · rw [if_neg b, Dk (e - 1) (by omega)]
            exact p2 (e - 1) (e' - 1) (by omega) (by omega)
  · by_cases c : o = k
    · refine ⟨n, by omega, ?_⟩
      unfold insE
      rw [if_neg (by omega), if_pos rfl, c]
    · obtain ⟨e, he, hE⟩ := p3 o (by omega)
      by_cases a : e < n
      · refine ⟨e, by omega, ?_⟩
        unfold insE
        rw [if_pos a, hE]
      · refine ⟨e + 1, by omega, ?_⟩
        unfold insE
        rw [if_neg (by omega), if_neg (by omega), Nat.add_sub_cancel, hE]
section RdC
variable {o a n u : Nat} {bt : Nat → Nat}
theorem ao_c {I : MI} {B : Bd} {q d : Nat} (hB : CBd I u B (bO B)) (gB : GB B) (h16 : bO B < 16) (hd : d ≤ 99) : Ok (f_X3_addOrder u (nI q) (nI d) I) (fun I' => CBd I' u (bsQ B q d) (bO B + 1) ∧ I' u 0 = I u 0 ∧ ∀ b, b < u ∨ u + 10 ≤ b → I' b = I b) := by
  obtain ⟨⟨c1, c2, c3, c4, c5, c6, c7⟩, d1, d2, d3, d4, E, d5, d6⟩ := hB
  have gD := gB.2.2.2.2.2.2.1
  obtain ⟨p1, p2, p3⟩ := id d5
  unfold f_X3_addOrder
  refine ok_pos (by rw [c7]; exact nI_lt (b := 16) h16 (by omega)) (ok_wr (bO B) c7 h16 (by omega) (ok_wr (bO B) (by rw [mst_row _ _ _ (by omega)]; exact c7) h16 (by omega) ?_))
  generalize hI3 : mst (mst I (u + 4) (bO B) (nI q)) (u + 5) (bO B) (nI d) = I3
  have f3 : ∀ b, b ≠ u + 4 → b ≠ u + 5 → I3 b = I b := fun b h4 h5 => by rw [← hI3, mst_row _ _ _ h5, mst_row _ _ _ h4]
  have e4 : I3 (u + 4) = pu (I (u + 4)) (bO B) (nI q) := by rw [← hI3, mst_row _ _ _ (by omega), ms_r]
  have e5 : I3 (u + 5) = pu (I (u + 5)) (bO B) (nI d) := by rw [← hI3, ms_r, mst_row _ _ _ (by omega)]
  have e10 : I3 u 10 = nI (bO B) := by rw [f3 u (by omega) (by omega)]; exact c7
  rw [e10]
  refine ok_bind (P := fun s : Int32 × MI => ∃ k, k ≤ bO B ∧ s.1 = nI k ∧ (∀ e, e < k → s.2 (u + 9) e = nI (E e)) ∧ (∀ e, k ≤ e → e < bO B → s.2 (u + 9) (e + 1) = nI (E e) ∧ d < bD B (E e)) ∧ (∀ b, b ≠ u + 9 → s.2 b = I3 b) ∧ (k = 0 ∨ bD B (E (k - 1)) ≤ d)) (ok_lp (fun k s => k ≤ bO B ∧ s.1 = nI k ∧ (∀ e, e < k → s.2 (u + 9) e = nI (E e)) ∧ (∀ e, k ≤ e → e < bO B → s.2 (u + 9) (e + 1) = nI (E e) ∧ d < bD B (E e)) ∧ (∀ b, b ≠ u + 9 → s.2 b = I3 b)) (fun k s hs => ?_) (bO B) (nI (bO B), I3) ⟨Nat.le_refl _, rfl, fun e he => ?_, fun e h1 h2 => by omega, fun _ _ => rfl⟩) (fun s hs => ?_)
  · obtain ⟨s1, I4⟩ := s
    obtain ⟨hk, rfl, i1, i2, i3⟩ := hs
    dsimp only at hk i1 i2 i3
    show Ok (b_X3_addOrder_35 u (nI d) (nI k, I4)) _
    by_cases hk0 : k = 0
    · subst hk0
      exact ok_neg (by show ¬ (0 : Int32) < 0; decide) (ok_some ⟨0, Nat.zero_le _, rfl, i1, i2, i3, Or.inl rfl⟩)
    · have hm : nI k - 1 = nI (k - 1) := m1_p hk0
      have hE := p1 (k - 1) (by omega)
      have hD := (gD (E (k - 1)) hE).1
      have e9 := i1 (k - 1) (by omega)
      refine ok_pos ((nI_p0 (by omega)).mpr (by omega)) (ok_bs (rd_v (k - 1) hm (by omega) (by omega) e9) (ok_bs (rd_v (v := nI (bD B (E (k - 1)))) (E (k - 1)) rfl (by omega) (by omega) (by dsimp only; rw [i3 _ (by omega), e5, pu_n (by omega)]; exact (d2 _ hE).2)) ?_))
      by_cases hlt : d < bD B (E (k - 1))
      · refine ok_pos (nI_lt hlt (by omega)) (ok_bs (rd_v (k - 1) hm (by omega) (by omega) e9) (ok_wr k rfl (by omega) (by omega) (ok_some ⟨k - 1, by omega, by omega, ?_, fun e he => ?_, fun e h1 h2 => ?_, fun b hb => ?_⟩)))
        · show nI k + (-1) = nI (k - 1)
          obtain ⟨r, rfl⟩ : ∃ r, k = r + 1 := ⟨k - 1, by omega⟩
          exact pk_m1 r
        · dsimp only
          rw [mst_ne _ _ (Or.inr (by omega))]
          exact i1 e (by omega)
        · dsimp only
          by_cases c : e = k - 1
          · rw [c, show k - 1 + 1 = k by omega]
            exact ⟨mst_self _ _ _ _, hlt⟩
          · obtain ⟨j1, j2⟩ := i2 e (by omega) h2
            exact ⟨by rw [mst_ne _ _ (Or.inr (by omega))]; exact j1, j2⟩
        · dsimp only
          rw [mst_row _ _ _ hb]
          exact i3 b hb
      · exact ok_neg (nI_nlt (by omega) (by omega)) (ok_some ⟨k, hk, rfl, i1, i2, i3, Or.inr (by omega)⟩)
  · dsimp only
    rw [f3 _ (by omega) (by omega)]
    exact d6 e he
  · obtain ⟨s1, I4⟩ := s
    obtain ⟨k, hk, hs1, i1, i2, i3, i4⟩ := hs
    dsimp only at hs1 i1 i2 i3
    subst hs1
    have e10' : I4 u 10 = nI (bO B) := by rw [i3 u (by omega)]; exact e10
    refine ok_wr k rfl (by omega) (by omega) ?_
    dsimp only
    rw [e10']
    refine ok_wf (ok_some ?_)
    generalize hM : mst (mst I4 (u + 9) k (nI (bO B))) u 10 (mst I4 (u + 9) k (nI (bO B)) u 10 + 1) = M
    have m10 : M u 10 = nI (bO B + 1) := by rw [← hM, mst_self, mst_row _ _ _ (by omega), e10', nI_1]
    have mj : ∀ j, j ≠ 10 → M u j = I u j := fun j hj => by rw [← hM, mst_ne _ _ (Or.inr hj), mst_row _ _ _ (by omega), i3 u (by omega), f3 u (by omega) (by omega)]
    have m9 : M (u + 9) = pu (I4 (u + 9)) k (nI (bO B)) := by rw [← hM, mst_row _ _ _ (by omega), ms_r]
    have mo : ∀ b, b ≠ u → b ≠ u + 9 → M b = I3 b := fun b h0 h9 => by rw [← hM, mst_row _ _ _ h0, mst_row _ _ _ h9, i3 b h9]
    have mr : ∀ r, 1 ≤ r → r < 9 → r ≠ 4 → r ≠ 5 → M (u + r) = I (u + r) := fun r h1 h2 h4 h5 => by rw [mo _ (by omega) (by omega), f3 _ (by omega) (by omega)]
    refine ⟨⟨⟨by rw [mj 1 (by omega)]; exact c1, by rw [mj 2 (by omega)]; exact c2, by rw [mj 3 (by omega)]; exact c3, by rw [mj 4 (by omega)]; exact c4, by rw [mj 5 (by omega)]; exact c5, by rw [mj 6 (by omega)]; exact c6, m10⟩, fun i hi => by rw [mr 1 (by omega) (by omega) (by omega) (by omega), mr 2 (by omega) (by omega) (by omega) (by omega), mr 3 (by omega) (by omega) (by omega) (by omega)]; exact d1 i hi, fun p hp => ?_, fun c hc => by rw [mr 6 (by omega) (by omega) (by omega) (by omega)]; exact d3 c hc, fun p hp => by rw [mr 7 (by omega) (by omega) (by omega) (by omega), mr 8 (by omega) (by omega) (by omega) (by omega)]; exact d4 p hp, insE E (bO B) k, eo_ins d5 hk (fun e h1 h2 => (i2 e h1 h2).2) i4, fun e he => ?_⟩, mj 0 (by omega), fun b hb => by rw [mo b (by omega) (by omega), f3 b (by omega) (by omega)]⟩
    · rw [mo (u + 4) (by omega) (by omega), mo (u + 5) (by omega) (by omega), e4, e5]
      show pu (I (u + 4)) (bO B) (nI q) p = nI (pu (bQ B) (bO B) q p) ∧ pu (I (u + 5)) (bO B) (nI d) p = nI (pu (bD B) (bO B) d p)
      by_cases c : p = bO B
      · rw [c, pu_s, pu_s, pu_s, pu_s]
        exact ⟨rfl, rfl⟩
      · rw [pu_n c, pu_n c, pu_n c, pu_n c]
        exact d2 p (by omega)
    · rw [m9]
      unfold insE
      by_cases c : e < k
      · rw [if_pos c, pu_n (by omega)]
        exact i1 e c
      · rw [if_neg c]
        by_cases c2 : e = k
        · rw [if_pos c2, c2, pu_s]
        · rw [if_neg c2, pu_n c2]
          have := (i2 (e - 1) (by omega) (by omega)).1
          rw [show e - 1 + 1 = e by omega] at this
          exact this
/-- as LO; but where no close follows the fault may stand already -/
def LOo (o n u : Nat) (t : Tk) (I I' : MI) (R : Nat ⊕ (Tk × Bd)) : Prop := (∀ b, b ≠ o → b < u ∨ u + 10 ≤ b → I' b = I b) ∧ I' u 0 = I u 0 ∧ Sum.elim (fun F => I' o 6 = nI F ∧ 0 < F ∧ F < 2 ^ 20) (fun w => (CK I' o n w.1 ∧ I' o 6 = 0 ∧ CBd I' u w.2 (bO w.2) ∧ GK n w.1 ∧ GB w.2 ∧ GN w.2 ∧ t.2.1 ≤ w.1.1) ∨ (w.1.2.2.1 ≠ 3 ∧ I' o 6 = nI (8 * w.1.1 + 1) ∧ 8 * w.1.1 + 1 < 2 ^ 20)) R
theorem LO.oo {t : Tk} {I I' : MI} {R : Nat ⊕ (Tk × Bd)} (h : LO o n u t I I' R) : LOo o n u t I I' R := by
  refine ⟨h.1, h.2.1, ?_⟩
  have h3 := h.2.2
  cases R with
  | inl F => exact h3
  | inr w => exact Or.inl h3
theorem us_l (hoa : o ≠ a) (hou : o < u ∨ u + 10 ≤ o) (hau : a < u ∨ u + 10 ≤ a) {q : Nat} {r4 : Int32 × MI} (hq16 : q < 16) (hr4 : r4.2 u 10 = nI q) : ∀ (f j : Nat) (I : MI) (t : Tk) (B : Bd), j + f = 6 → Tape I a n bt → CK I o n t → GK n t → I o 6 = 0 → CBd I u B (q + 1) → GB B → GNq B q (j + 1) → bO B = q → Ok (lp (b_X2_readOrder_56 o a u r4) (nI (j + 1), I)) (fun s => (∀ b, b ≠ o → b < u ∨ u + 10 ≤ b → s.2 b = I b) ∧ s.2 u 0 = I u 0 ∧ Sum.elim (fun F => s.2 o 6 = nI F ∧ 0 < F ∧ F < 2 ^ 20) (fun w => (CK s.2 o n w.1 ∧ s.2 o 6 = 0 ∧ CBd s.2 u w.2 (q + 1) ∧ GK n w.1 ∧ GB w.2 ∧ (∃ kk, 0 < kk ∧ GNq w.2 q kk) ∧ t.1 ≤ w.1.1 ∧ bO w.2 = q) ∨ (w.1.2.2.1 ≠ 3 ∧ s.2 o 6 = nI (8 * w.1.1 + 1) ∧ 8 * w.1.1 + 1 < 2 ^ 20)) (if t.2.2.1 = 1 then pUs bt n f t B q (j + 1) else .inr (t, B))) := by
  intro f
  induction f with
  | zero =>
    intro j I t B hj hT hk hg h6 hB gB gN hq
    have := gN.2.2.2.2.2
    omega
  | succ f ih =>
    intro j I t B hj hT hk hg h6 hB gB gN hq
    have h600 := hT.1
    have r6 : ¬ 6 < nI (j + 1) := nI_nlt (a := 6) (by omega) (by omega)
    have r0 : ¬ nI (j + 1) = 0 := nI_ne0 (by omega) (by omega)
    obtain ⟨k1, k2, k3, k4, k5⟩ := id hk
    obtain ⟨g1, g2, g3, g4, g5, g6, g7⟩ := id hg
    by_cases c3 : t.2.2.1 = 3
    · rw [if_neg (by omega)]
      exact Ok.mk (lp_done (it_n r6 (it_p h6 (it_n r0 (it_p (by dsimp only; rw [k3, c3]; rfl) rfl))))) ⟨fun _ _ _ => rfl, rfl, Or.inl ⟨hk, h6, hB, hg, gB, ⟨j + 1, by omega, gN⟩, Nat.le_refl _, hq⟩⟩
    · obtain ⟨I1, hI1, l1, l2, l3⟩ := un_l (kk := j + 1) hoa hou hau hT hk hg h6 hB gB gN hq hq16
      have st : b_X2_readOrder_56 o a u r4 (nI (j + 1), I) = some (.inl (nI (j + 1 + 1), I1)) := by
        refine it_n r6 (it_p h6 (it_n r0 (it_n (fun q => c3 ((nI_eq (b := 3) (by omega) (by omega)).mp (k3.symm.trans q))) ?_)))
        dsimp only
        rw [hr4]
        refine rUn_in hI1 ?_
        rw [nI_1]
      have stop : ∀ {F : Nat}, I1 o 6 = nI F → 0 < F → F < 2 ^ 20 → lp (b_X2_readOrder_56 o a u r4) (nI (j + 1 + 1), I1) = some (nI (j + 1 + 1), I1) := by
        intro F h1 h2 h3
        refine lp_done ?_
        have h6' : ¬ I1 o 6 = 0 := by rw [h1]; exact nI_ne0 h2 (by omega)
        by_cases hj5 : j + 1 < 6
        · exact it_n (nI_nlt (a := 6) (by omega) (by omega)) (it_n h6' rfl)
        · exact it_p (nI_lt (a := 6) (by omega) (by omega)) rfl
      by_cases c1 : t.2.2.1 = 1
      · rw [if_pos c1, pUs]
        cases hp : pUn bt n t B q (j + 1) with
        | inl F =>
          rw [hp] at l3
          exact ok_next st (Ok.mk (stop l3.1 l3.2.1 l3.2.2) ⟨l1, l2, l3⟩)
        | inr w =>
          rw [hp] at l3
          obtain ⟨w1, w2, w3, w4, w5, w6, w7, w8⟩ := l3
          refine ok_next st ((ih (j + 1) I1 w.1 w.2 (by omega) (hT.fr (l1 a (fun q => hoa q.symm) hau)) w1 w4 w2 w3 w5 w6 w8).im (fun s hs => ⟨fun b h1 h2 => (hs.1 b h1 h2).trans (l1 b h1 h2), hs.2.1.trans l2, ?_⟩))
          show Sum.elim _ _ (if w.1.2.2.1 = 1 then pUs bt n f w.1 w.2 q (j + 1 + 1) else .inr w)
          have h3 := hs.2.2
          have e : (Sum.inr (w.1, w.2) : Nat ⊕ (Tk × Bd)) = .inr w := rfl
          rw [e] at h3
          generalize (if w.1.2.2.1 = 1 then pUs bt n f w.1 w.2 q (j + 1 + 1) else .inr w) = R at h3 ⊢
          cases R with
          | inl F => exact h3
          | inr y =>
            rcases h3 with ⟨y1, y2, y3, y4, y5, y6, y7, y8⟩ | h3
            · exact Or.inl ⟨y1, y2, y3, y4, y5, y6, by omega, y8⟩
            · exact Or.inr h3
      · rw [if_neg c1]
        have hn : isN t = false := by
          cases h : isN t
          · rfl
          · exact absurd (isN_1 h) c1
        have hp : pUn bt n t B q (j + 1) = .inl (8 * t.1 + 1) := by unfold pUn; rw [if_neg (by rw [hn]; simp)]
        rw [hp] at l3
        exact ok_next st (Ok.mk (stop l3.1 l3.2.1 l3.2.2) ⟨l1, l2, Or.inr ⟨c3, l3.1, l3.2.2⟩⟩)
theorem pUn_k {t : Tk} {B : Bd} {q k : Nat} {w : Tk × Bd} (h : pUn bt n t B q k = .inr w) : bQ w.2 = bQ B ∧ bD w.2 = bD B := by
  unfold pUn at h
  split at h
  · split at h
    · split at h
      · split at h
        · unfold pB at h
          cases hp : pN bt n 1 9 (tok bt n t.2.1) with
          | inl F => rw [hp] at h; cases h
          | inr y => rw [hp] at h; cases h; exact ⟨rfl, rfl⟩
        · cases h
      · cases h
    · cases h
  · cases h
theorem pUs_k {w : Tk × Bd} : ∀ (f : Nat) (t : Tk) (B : Bd) (k : Nat) (q : Nat), pUs bt n f t B q k = .inr w → bQ w.2 = bQ B ∧ bD w.2 = bD B := by
  intro f
  induction f with
  | zero => intro t B k q h; cases h
  | succ f ih =>
    intro t B k q h
    rw [pUs] at h
    cases hp : pUn bt n t B q k with
    | inl F => rw [hp] at h; cases h
    | inr y =>
      rw [hp] at h
      have h' : (if y.1.2.2.1 = 1 then pUs bt n f y.1 y.2 q (k + 1) else .inr y) = .inr w := h
      have h1 := pUn_k hp
      by_cases c : y.1.2.2.1 = 1
      · rw [if_pos c] at h'
        have h2 := ih _ _ _ _ h'
        exact ⟨h2.1.trans h1.1, h2.2.trans h1.2⟩
      · rw [if_neg c] at h'
        cases h'
        exact h1
theorem gn_of {B : Bd} {kk : Nat} (g : GNq B (bO B) kk) (h : 0 < kk) : GN (bsO B) := by
  obtain ⟨g1, g2, g3, g4, g5, g6⟩ := g
  refine ⟨fun c hc => ⟨(g1 c hc).1, fun q => (g1 c hc).2 ?_⟩, fun p hp => ?_⟩
  · rcases q with q | q
    · exact Or.inl (by have q' : bO B + 1 ≤ c / 10 := q
                       omega)
    · exact Or.inr q
  · have hp' : p < bO B + 1 := hp
    show 0 < sm (bN B) (10 * p) 10 ∧ sm (bN B) (10 * p) 10 ≤ 54
    by_cases c : p = bO B
    · rw [c]
      exact ⟨g5 h, by omega⟩
    · exact g2 p (by omega)
theorem gnq_0 {B : Bd} {q d : Nat} (g : GN B) (h16 : bO B < 16) : GNq (bsQ B q d) (bO B) 0 := by
  have hz : ∀ i, i < 10 → bN B (10 * bO B + i) = 0 := fun i hi => (g.1 _ (by omega)).2 (Or.inl (by omega))
  refine ⟨fun c hc => ⟨(g.1 c hc).1, fun h => (g.1 c hc).2 ?_⟩, g.2, ?_, ?_, fun h => by omega, by omega⟩
  · rcases h with h | h
    · exact Or.inl (by omega)
    · exact Or.inr h
  · have : ∀ k, k ≤ 10 → ct (fun i => decide (0 < bN B (10 * bO B + i))) k = 0 := by
      intro k
      induction k with
      | zero => intro _; rfl
      | succ k ih => intro hk; rw [ct, ih (by omega), hz k (by omega)]; rfl
    exact this 10 (Nat.le_refl _)
  · show sm (bN B) (10 * bO B) 10 ≤ 0
    rw [sm_z hz]
    exact Nat.le_refl _
theorem or_l (hoa : o ≠ a) (hou : o < u ∨ u + 10 ≤ o) (hau : a < u ∨ u + 10 ≤ a) {I : MI} {t : Tk} {B : Bd} (hT : Tape I a n bt) (hk : CK I o n t) (hg : GK n t) (h6 : I o 6 = 0) (hB : CBd I u B (bO B)) (gB : GB B) (gN : GN B) (ht : bO B < 16) : Ok (f_X2_readOrder o a u I) (fun I' => LOo o n u t I I' (pOrd bt n (tok bt n t.2.1) B)) := by
  unfold f_X2_readOrder pOrd
  refine ok_pos (by rw [hB.1.2.2.2.2.2.2]; exact nI_lt (b := 16) ht (by omega)) (ok_bind (ad_c hoa hT hg.2.1 hk.1 hk.2.1 h6) (fun I2 hI2 => ?_))
  obtain ⟨k2, z2, f2⟩ := hI2
  have gt := gk_tok (bt := bt) hg.2.1
  refine ok_bind (nn_c (B := B) hoa hou (hT.fr (f2 a (fun q => hoa q.symm))) k2 gt.1 z2 (hB.fr (fun r hr => f2 _ (by omega))) gB) (fun r hr => ?_)
  obtain ⟨fr, hr⟩ := hr
  have er : ∀ b, b ≠ o → r.2 b = I b := fun b hb => (fr b hb).trans (f2 b hb)
  cases hp : pW bt n (tok bt n t.2.1) B with
  | inl F =>
    rw [hp] at hr
    have h6' : ¬ r.2 o 6 = 0 := by rw [hr.1]; exact nI_ne0 hr.2.1 (by have := hr.2.2; omega)
    obtain ⟨v, hv⟩ := rn_n (a := a) (x := 0) (y := 99) h6'
    exact ok_bs hv (ok_neg h6' (ok_some ⟨fun b h1 _ => er b h1, by dsimp only; rw [er u (by omega)], hr⟩))
  | inr q =>
    rw [hp] at hr
    obtain ⟨q1, q2, q3, q4, q5, q6⟩ := hr
    refine ok_bind (rn_c (lo := 0) (hi := 99) (t := q.2) hoa (hT.fr (er a (fun q => hoa q.symm))) q2 q4 q3 (by omega) (by omega)) (fun s hs => ?_)
    obtain ⟨fs, hs⟩ := hs
    have es : ∀ b, b ≠ o → s.2 b = I b := fun b hb => (fs b hb).trans (er b hb)
    show Ok _ (fun I' => LOo o n u t I I' (pB (pN bt n 0 99 q.2) (fun d => pB (pUs bt n 7 d.2 (bsQ B q.1 d.1) (bO B) 0) (fun w => .inr (w.1, bsO w.2)))))
    cases hp1 : pN bt n 0 99 q.2 with
    | inl F =>
      rw [hp1] at hs
      have h6' : ¬ s.2 o 6 = 0 := by rw [hs.1]; exact nI_ne0 hs.2.1 (by have := hs.2.2; omega)
      exact ok_neg h6' (ok_some ⟨fun b h1 _ => es b h1, by rw [es u (by omega)], hs⟩)
    | inr d =>
      rw [hp1] at hs
      obtain ⟨w1, w2, w3, w4, w5, w6, w7⟩ := hs
      have e10 : s.2 u 10 = nI (bO B) := by rw [es u (by omega)]; exact hB.1.2.2.2.2.2.2
      refine ok_pos w3 ?_
      rw [q1, w1]
      refine ok_bind (ao_c (q := q.1) (d := d.1) (hB.fr (fun r hr => es _ (by omega))) gB ht w6) (fun I6 hI6 => ?_)
      obtain ⟨b1, b2, b3⟩ := hI6
      have gB1 : GB (bsQ B q.1 d.1) := by
        obtain ⟨p1, p2, p3, p4, p5, p6, p7, p8, p9⟩ := gB
        refine ⟨p1, p2, p3, p4, p5, p6, fun p hp => ?_, p8, p9⟩
        have hp' : p < bO B := hp
        show pu (bD B) (bO B) d.1 p ≤ 99 ∧ pu (bQ B) (bO B) q.1 p < 2 ^ 30
        rw [pu_n (by omega), pu_n (by omega)]
        exact p7 p hp'
      have h66 : I6 o 6 = 0 := by rw [b3 o (by omega)]; exact w3
      obtain ⟨I7, hI7, l1, l2, l3⟩ := un_l (kk := 0) (t := d.2) hoa hou hau (hT.fr ((b3 a (by omega)).trans (es a (fun q => hoa q.symm)))) (w2.fr (b3 o (by omega))) w4 h66 b1 gB1 (gnq_0 gN ht) rfl ht
      have st : b_X2_readOrder_56 o a u s (0, I6) = some (.inl (nI 1, I7)) := by
        refine it_n (show ¬ (6 : Int32) < 0 by decide) (it_p h66 (it_p rfl ?_))
        dsimp only
        rw [e10]
        exact rUn_in hI7 rfl
      have ef : ∀ b, b ≠ o → b < u ∨ u + 10 ≤ b → I7 b = I b := fun b h1 h2 => by rw [l1 b h1 h2, b3 b h2]; exact es b h1
      have e0 : I7 u 0 = I u 0 := by rw [l2, b2, es u (by omega)]
      show Ok _ (fun I' => LOo o n u t I I' (pB (pUs bt n 7 d.2 (bsQ B q.1 d.1) (bO B) 0) (fun w => .inr (w.1, bsO w.2))))
      rw [pUs]
      cases hp2 : pUn bt n d.2 (bsQ B q.1 d.1) (bO B) 0 with
      | inl F =>
        rw [hp2] at l3
        have h6' : ¬ I7 o 6 = 0 := by rw [l3.1]; exact nI_ne0 l3.2.1 (by have := l3.2.2; omega)
        exact ok_bs (lp_next st (lp_done (it_n (by show ¬ (6 : Int32) < nI 1; decide) (it_n h6' rfl)))) (ok_some ⟨ef, e0, l3⟩)
      | inr w =>
        rw [hp2] at l3
        obtain ⟨y1, y2, y3, y4, y5, y6, y7, y8⟩ := l3
        refine ok_bind (ok_next st (us_l (r4 := s) hoa hou hau ht e10 6 0 I7 w.1 w.2 (by omega) (hT.fr (ef a (fun q => hoa q.symm) hau)) y1 y4 y2 y3 y5 y6 y8)) (fun v hv => ok_some ?_)
        obtain ⟨v1, v2, v3⟩ := hv
        refine ⟨fun b h1 h2 => (v1 b h1 h2).trans (ef b h1 h2), v2.trans e0, ?_⟩
        have e : (Sum.inr (w.1, w.2) : Nat ⊕ (Tk × Bd)) = .inr w := rfl
        rw [e] at v3
        show Sum.elim _ _ (pB (if w.1.2.2.1 = 1 then pUs bt n 6 w.1 w.2 (bO B) (0 + 1) else .inr w) (fun w => .inr (w.1, bsO w.2)))
        generalize hR : (if w.1.2.2.1 = 1 then pUs bt n 6 w.1 w.2 (bO B) (0 + 1) else .inr w) = R at v3 ⊢
        cases R with
        | inl F => exact v3
        | inr x =>
          rcases v3 with ⟨x1, x2, x3, x4, x5, ⟨kk, x6, x7⟩, x8, x9⟩ | v3
          · refine Or.inl ⟨x1, x2, ?_, x4, ?_, ?_, by have := gt.2; have := gt.1.1; have := q4.1; have := w4.1; show t.2.1 ≤ x.1.1; omega⟩
            · show CBd v.2 u (bsO x.2) (bO x.2 + 1)
              rw [x9]
              exact x3
            · obtain ⟨p1, p2, p3, p4, p5, p6, p7, p8, p9⟩ := x5
              refine ⟨p1, by show bO x.2 + 1 ≤ 16; omega, p3, p4, p5, p6, fun p hp => ?_, p8, p9⟩
              have hp' : p < bO x.2 + 1 := hp
              by_cases c : p < bO x.2
              · exact p7 p c
              · have hk1 := pUn_k hp2
                have hk2 : bQ x.2 = bQ w.2 ∧ bD x.2 = bD w.2 := by
                  by_cases c1 : w.1.2.2.1 = 1
                  · rw [if_pos c1] at hR
                    exact pUs_k _ _ _ _ _ hR
                  · rw [if_neg c1] at hR
                    cases hR
                    exact ⟨rfl, rfl⟩
                have hpe : p = bO B := by omega
                show bD x.2 p ≤ 99 ∧ bQ x.2 p < 2 ^ 30
                rw [hk2.1, hk2.2, hk1.1, hk1.2, hpe]
                show pu (bD B) (bO B) d.1 (bO B) ≤ 99 ∧ pu (bQ B) (bO B) q.1 (bO B) < 2 ^ 30
                rw [pu_s, pu_s]
                exact ⟨w6, q5⟩
            · rw [← x9] at x7
              exact gn_of x7 x6
          · exact Or.inr v3
end RdC
