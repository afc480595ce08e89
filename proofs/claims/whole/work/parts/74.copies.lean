/-! a text taken over: the reference's rows -/
section Cpm
variable {m : Nat}
theorem pl_l {K : MI} {b : Nat} (hb : b < 2) : Ok (lp (b_X5_plain_42 m (nI b)) (160 * nI b, K)) (fun s => (∀ c, c < 160 → s.2 (m + 12) (160 * b + c) = 0) ∧ (∀ c, c < 160 * b ∨ 160 * b + 160 ≤ c → s.2 (m + 12) c = K (m + 12) c) ∧ ∀ a, a ≠ m + 12 → s.2 a = K a) := by
  have h160 : (160 : Int32) * nI b = nI (160 * b) := nI_mul 160 b
  rw [h160]
  refine ok_up 160 (fun k s => ∃ K', s = (nI (160 * b + k), K') ∧ (∀ c, c < k → K' (m + 12) (160 * b + c) = 0) ∧ (∀ c, c < 160 * b ∨ 160 * b + k ≤ c → K' (m + 12) c = K (m + 12) c) ∧ ∀ a, a ≠ m + 12 → K' a = K a) (fun k s hk hs => ?_) (fun s hs => ?_) 0 _ (by omega) ⟨K, rfl, fun c hc => by omega, fun _ _ => rfl, fun _ _ => rfl⟩
  · obtain ⟨K', rfl, q1, q2, q3⟩ := hs
    refine ok_pos (by dsimp only; rw [h160, show nI (160 * b) + 160 = nI (160 * b + 160) from nI_add _ 160]; exact nI_lt (by omega) (by omega)) (ok_wr (160 * b + k) rfl (by omega) (by omega) (ok_some ⟨_, by dsimp only; rw [nI_1]; rfl, fun c hc => ?_, fun c hc => ?_, fun a ha => ?_⟩))
    · rw [ms_r]
      by_cases e : c = k
      · rw [e, pu_s]
      · rw [pu_n (by omega)]; exact q1 c (by omega)
    · rw [ms_r, pu_n (by omega)]; exact q2 c (by omega)
    · rw [mst_row _ _ _ ha]; exact q3 a ha
  · obtain ⟨K', rfl, q1, q2, q3⟩ := hs
    exact ok_neg (by dsimp only; rw [h160, show nI (160 * b) + 160 = nI (160 * b + 160) from nI_add _ 160]; exact nI_nlt (Nat.le_refl _) (by omega)) (ok_some ⟨q1, q2, q3⟩)
theorem pl_m {K : MI} {J : MJ} {b : Nat} (hb : b < 2) : Ok (f_X5_plain m (nI b) J K) (fun K' => (K' (m + 2) b = 0 ∧ K' (m + 3) b = 0 ∧ K' (m + 4) b = 4 ∧ K' (m + 5) b = 4 ∧ K' (m + 6) b = 30) ∧ (∀ c, c < 160 → K' (m + 12) (160 * b + c) = 0) ∧ (∀ c, c < 160 * b → K' (m + 12) c = K (m + 12) c) ∧ (∀ r k, 2 ≤ r → r ≤ 6 → k ≠ b → K' (m + r) k = K (m + r) k) ∧ ∀ a, a < m + 2 ∨ (m + 6 < a ∧ a ≠ m + 12) → K' a = K a) := by
  unfold f_X5_plain
  refine ok_wr b rfl hb (by omega) (ok_wr b rfl hb (by omega) (ok_wr b rfl hb (by omega) (ok_wr b rfl hb (by omega) (ok_wr b rfl hb (by omega) ?_))))
  generalize hK5 : mst (mst (mst (mst (mst K (m + 2) b 0) (m + 3) b 0) (m + 4) b 4) (m + 5) b 4) (m + 6) b 30 = K5
  have e2 : K5 (m + 2) = pu (K (m + 2)) b 0 := by rw [← hK5, mst_row _ _ _ (by omega), mst_row _ _ _ (by omega), mst_row _ _ _ (by omega), mst_row _ _ _ (by omega), ms_r]
  have e3 : K5 (m + 3) = pu (K (m + 3)) b 0 := by rw [← hK5, mst_row _ _ _ (by omega), mst_row _ _ _ (by omega), mst_row _ _ _ (by omega), ms_r, mst_row _ _ _ (by omega)]
  have e4 : K5 (m + 4) = pu (K (m + 4)) b 4 := by rw [← hK5, mst_row _ _ _ (by omega), mst_row _ _ _ (by omega), ms_r, mst_row _ _ _ (by omega), mst_row _ _ _ (by omega)]
  have e5 : K5 (m + 5) = pu (K (m + 5)) b 4 := by rw [← hK5, mst_row _ _ _ (by omega), ms_r, mst_row _ _ _ (by omega), mst_row _ _ _ (by omega), mst_row _ _ _ (by omega)]
  have e6 : K5 (m + 6) = pu (K (m + 6)) b 30 := by rw [← hK5, ms_r, mst_row _ _ _ (by omega), mst_row _ _ _ (by omega), mst_row _ _ _ (by omega), mst_row _ _ _ (by omega)]
  have eo : ∀ a, a < m + 2 ∨ m + 6 < a → K5 a = K a := fun a ha => by rw [← hK5, mst_row _ _ _ (by omega), mst_row _ _ _ (by omega), mst_row _ _ _ (by omega), mst_row _ _ _ (by omega), mst_row _ _ _ (by omega)]
  refine ok_bind (pl_l (m := m) (K := K5) hb) (fun s hs => ok_some ?_)
  obtain ⟨s1, s2, s3⟩ := hs
  refine ⟨⟨by rw [s3 _ (by omega), e2, pu_s], by rw [s3 _ (by omega), e3, pu_s], by rw [s3 _ (by omega), e4, pu_s], by rw [s3 _ (by omega), e5, pu_s], by rw [s3 _ (by omega), e6, pu_s]⟩, s1, fun c hc => by rw [s2 c (by omega), eo _ (by omega)], fun r k h1 h2 hk => ?_, fun a ha => by rw [s3 a (by omega)]; exact eo a (by omega)⟩
  rw [s3 _ (by omega)]
  rcases (show r = 2 ∨ r = 3 ∨ r = 4 ∨ r = 5 ∨ r = 6 by omega) with rfl | rfl | rfl | rfl | rfl
  · rw [e2, pu_n hk]
  · rw [e3, pu_n hk]
  · rw [e4, pu_n hk]
  · rw [e5, pu_n hk]
  · rw [e6, pu_n hk]
/-- the reference's row, empty -/
def Em (S : Nat → Int32) : Prop := (∀ k, k < 2117 → k < 346 ∨ 370 ≤ k → S k = 0) ∧ ∀ k, 346 ≤ k → k < 370 → S k = -1
theorem em_m {K : MI} {J : MJ} : Ok (f_X5_empties m J K) (fun K' => Em (K' (m + 13)) ∧ ∀ a, a ≠ m + 13 → K' a = K a) := by
  unfold f_X5_empties
  refine ok_bs (lp_cp (K := K) (m + 13) 0 2117 (fun _ => 0) (fun k hk => ?_) (fun K' => ?_)) ?_
  · refine it_p (nI_lt (b := 2117) hk (by omega)) (bnd_s (wr_k k rfl (by omega) (by omega)) ?_)
    rw [Nat.zero_add]
  · exact it_n (nI_nlt (a := 2117) (b := 2117) (by omega) (by omega)) rfl
  generalize hK1 : sr K (m + 13) (ffl (K (m + 13)) 0 2117 (fun _ => 0)) = K1
  have z1 : ∀ k, k < 2117 → K1 (m + 13) k = 0 := fun k hk => by
    rw [← hK1, sr_s]
    have := ffl_i (R := K (m + 13)) (off := 0) (g := fun _ => (0 : Int32)) hk
    rw [Nat.zero_add] at this
    exact this
  have f1 : ∀ a, a ≠ m + 13 → K1 a = K a := fun a ha => by rw [← hK1, sr_o ha]
  refine ok_bs (lp_cp (K := K1) (m + 13) 346 16 (fun _ => -1) (fun k hk => ?_) (fun K' => ?_)) ?_
  · exact it_p (nI_lt (b := 16) hk (by omega)) (bnd_s (wr_k (346 + k) (ci_a rfl k) (by omega) (by omega)) rfl)
  · exact it_n (nI_nlt (a := 16) (b := 16) (by omega) (by omega)) rfl
  dsimp only
  generalize hK2 : sr K1 (m + 13) (ffl (K1 (m + 13)) 346 16 (fun _ => -1)) = K2
  have z2 : ∀ k, 346 ≤ k → k < 362 → K2 (m + 13) k = -1 := fun k h1 h2 => by
    rw [← hK2, sr_s]
    have := ffl_i (R := K1 (m + 13)) (off := 346) (g := fun _ => (-1 : Int32)) (show k - 346 < 16 by omega)
    rw [show 346 + (k - 346) = k by omega] at this
    exact this
  have z2' : ∀ k, k < 2117 → k < 346 ∨ 362 ≤ k → K2 (m + 13) k = 0 := fun k h1 h2 => by
    rw [← hK2, sr_s, ffl_o (by omega)]
    exact z1 k h1
  have f2 : ∀ a, a ≠ m + 13 → K2 a = K a := fun a ha => by rw [← hK2, sr_o ha]; exact f1 a ha
  refine ok_bs (lp_cp (K := K2) (m + 13) 362 8 (fun _ => -1) (fun k hk => ?_) (fun K' => ?_)) (ok_some ⟨⟨fun k h1 h2 => ?_, fun k h1 h2 => ?_⟩, fun a ha => ?_⟩)
  · exact it_p (nI_lt (b := 8) hk (by omega)) (bnd_s (wr_k (362 + k) (ci_a rfl k) (by omega) (by omega)) rfl)
  · exact it_n (nI_nlt (a := 8) (b := 8) (by omega) (by omega)) rfl
  · dsimp only
    rw [sr_s, ffl_o (by omega)]
    exact z2' k h1 (by omega)
  · dsimp only
    rw [sr_s]
    by_cases q : k < 362
    · rw [ffl_o (by omega)]
      exact z2 k h1 q
    · have := ffl_i (R := K2 (m + 13)) (off := 362) (g := fun _ => (-1 : Int32)) (show k - 362 < 8 by omega)
      rw [show 362 + (k - 362) = k by omega] at this
      exact this
  · dsimp only
    rw [sr_o ha]
    exact f2 a ha
def fl1 (S : Nat → Nat) : Fl := ((S, fun _ => 0, fun _ => 0, fun _ => 0, fun _ => 0, fun _ => 0), 0, [], [], [])
theorem em_f {ni : Nat} {S : Nat → Int32} {g : Nat → Nat} (hni : ni ≤ 10) (h : ∀ k, 10 ≤ k → k < 2117 → (k < 346 ∨ 370 ≤ k → S k = 0) ∧ (346 ≤ k ∧ k < 370 → S k = -1)) (hs : ∀ i, i < ni → S i = nI (g i)) : MF ni S (fl1 g) := by
  refine ⟨hs, fun o ho => (h _ (by omega) (by omega)).1 (by omega), fun o ho => ?_, fun k hk => ?_, fun c hc => (h _ (by omega) (by omega)).1 (by omega), fun c hc => (h _ (by omega) (by omega)).1 (by omega), ⟨(h _ (by omega) (by omega)).1 (by omega), fun k c hk => nomatch hk⟩, ⟨(h _ (by omega) (by omega)).1 (by omega), fun k c hk => nomatch hk⟩, (h _ (by omega) (by omega)).1 (by omega), fun k c hk => nomatch hk⟩
  · exact ((h _ (by omega) (by omega)).2 (by omega)).trans m1_z.symm
  · exact ((h _ (by omega) (by omega)).2 (by omega)).trans m1_z.symm
/-- a text as the reference takes it over -/
theorem cop_m {K K0 : MI} {J : MJ} {B : Bd} {E : Nat → Nat} (hB : MBd K0 J m B) (gB : GB B) (hr : ∀ b, b ≠ m → K b = K0 b) : Ok (f_X5_copies m J K) (fun r => MT r.2 m ((bI B, bO B, bH B, bW B, bU B), bP B, bD B, bN B, E) ∧ MF (bI B) (r.2 (m + 13)) (fl1 (bS B)) ∧ (∀ a, a < m + 2 ∨ m + 13 < a → r.2 a = K a)) := by
  obtain ⟨⟨c1, c2, c3, c4, c5, c6, c7, c8⟩, d1, d2, d3⟩ := hB
  rw [← hr _ (by omega)] at c1 c2 c3 c4 c5
  rw [← hr (m + 8) (by omega), ← hr (m + 9) (by omega)] at d1
  rw [← hr (m + 11) (by omega)] at d2
  rw [← hr (m + 12) (by omega)] at d3
  have hI := gB.1
  have hO := gB.2.1
  unfold f_X5_copies
  refine ok_bs (rd_v 1 rfl (by omega) (by omega) c1) (ok_wr 0 rfl (by omega) (by omega) (ok_bs (rd_v (v := nI (bO B)) 1 rfl (by omega) (by omega) (by rw [mst_row _ _ _ (by omega)]; exact c2)) (ok_wr 0 rfl (by omega) (by omega) (ok_bs (rd_v (v := nI (bH B)) 1 rfl (by omega) (by omega) (by rw [mst_row _ _ _ (by omega), mst_row _ _ _ (by omega)]; exact c3)) (ok_wr 0 rfl (by omega) (by omega) (ok_bs (rd_v (v := nI (bW B)) 1 rfl (by omega) (by omega) (by rw [mst_row _ _ _ (by omega), mst_row _ _ _ (by omega), mst_row _ _ _ (by omega)]; exact c4)) (ok_wr 0 rfl (by omega) (by omega) (ok_bs (rd_v (v := nI (bU B)) 1 rfl (by omega) (by omega) (by rw [mst_row _ _ _ (by omega), mst_row _ _ _ (by omega), mst_row _ _ _ (by omega), mst_row _ _ _ (by omega)]; exact c5)) (ok_wr 0 rfl (by omega) (by omega) ?_)))))))))
  generalize hK1 : mst (mst (mst (mst (mst K (m + 2) 0 (nI (bI B))) (m + 3) 0 (nI (bO B))) (m + 4) 0 (nI (bH B))) (m + 5) 0 (nI (bW B))) (m + 6) 0 (nI (bU B)) = K1
  have e2 : K1 (m + 2) 0 = nI (bI B) := by rw [← hK1, mst_row _ _ _ (by omega), mst_row _ _ _ (by omega), mst_row _ _ _ (by omega), mst_row _ _ _ (by omega), mst_self]
  have e3 : K1 (m + 3) 0 = nI (bO B) := by rw [← hK1, mst_row _ _ _ (by omega), mst_row _ _ _ (by omega), mst_row _ _ _ (by omega), mst_self]
  have e4 : K1 (m + 4) 0 = nI (bH B) := by rw [← hK1, mst_row _ _ _ (by omega), mst_row _ _ _ (by omega), mst_self]
  have e5 : K1 (m + 5) 0 = nI (bW B) := by rw [← hK1, mst_row _ _ _ (by omega), mst_self]
  have e6 : K1 (m + 6) 0 = nI (bU B) := by rw [← hK1, mst_self]
  have eo : ∀ a, a < m + 2 ∨ m + 6 < a → K1 a = K a := fun a ha => by rw [← hK1, mst_row _ _ _ (by omega), mst_row _ _ _ (by omega), mst_row _ _ _ (by omega), mst_row _ _ _ (by omega), mst_row _ _ _ (by omega)]
  refine ok_bind (em_m (m := m) (J := J) (K := K1)) (fun K2 hK2 => ?_)
  obtain ⟨f1, f2⟩ := hK2
  -- items
  refine ok_bind (P := fun s : Int32 × MJ × MI => (∀ i, i < 10 → s.2.2 (m + 8) i = K2 (m + 8) (10 + i)) ∧ (∀ i, i < 10 → s.2.2 (m + 13) i = if i < bI B then K2 (m + 9) (10 + i) else 0) ∧ (∀ k, 10 ≤ k → s.2.2 (m + 13) k = K2 (m + 13) k) ∧ ∀ a, a ≠ m + 8 → a ≠ m + 13 → s.2.2 a = K2 a) (ok_up 10 (fun k s => ∃ J' K', s = (nI k, J', K') ∧ (∀ i, i < k → K' (m + 8) i = K2 (m + 8) (10 + i)) ∧ (∀ i, k ≤ i → K' (m + 8) i = K2 (m + 8) i) ∧ (∀ i, i < k → K' (m + 13) i = if i < bI B then K2 (m + 9) (10 + i) else 0) ∧ (∀ i, k ≤ i → K' (m + 13) i = K2 (m + 13) i) ∧ ∀ a, a ≠ m + 8 → a ≠ m + 13 → K' a = K2 a) (fun k s hk hs => ?_) (fun s hs => ?_) 0 _ (by omega) ⟨J, K2, rfl, fun i hi => by omega, fun _ _ => rfl, fun i hi => by omega, fun _ _ => rfl, fun _ _ _ => rfl⟩) (fun s hs => ?_)
  · obtain ⟨J', K', rfl, q1, q2, q3, q4, q5⟩ := hs
    refine ok_pos (nI_lt (b := 10) hk (by omega)) (ok_bs (rd_k (10 + k) (ci_a rfl k) (by omega) (by omega)) (ok_wr k rfl (by omega) (by omega) (ok_bs (rd_v (v := K2 (m + 8) (10 + k)) (10 + k) (ci_a rfl k) (by omega) (by omega) (q2 _ (by omega))) (ok_wr k rfl (by omega) (by omega) (ok_bs (rd_v (v := nI (bI B)) 0 rfl (by omega) (by omega) (by dsimp only; rw [mst_row _ _ _ (by omega), q5 _ (by omega) (by omega), f2 _ (by omega)]; exact e2)) (ok_bs (a := if k < bI B then K2 (m + 9) (10 + k) else 0) ?_ (ok_wr k rfl (by omega) (by omega) (ok_some ⟨_, _, by dsimp only; rw [nI_1], fun i hi => ?_, fun i hi => ?_, fun i hi => ?_, fun i hi => ?_, fun a h1 h2 => ?_⟩))))))))
    · by_cases q : k < bI B
      · rw [if_pos q]
        exact it_p (nI_lt q (by omega)) (bnd_s (rd_v (v := K2 (m + 9) (10 + k)) (10 + k) (ci_a rfl k) (by omega) (by omega) (by dsimp only; rw [mst_row _ _ _ (by omega), q5 _ (by omega) (by omega)])) rfl)
      · rw [if_neg q]
        exact it_n (nI_nlt (by omega) (by omega)) rfl
    · skip
      rw [mst_row _ _ _ (by omega), ms_r]
      by_cases e : i = k
      · rw [e, pu_s]
      · rw [pu_n e]; exact q1 i (by omega)
    · skip
      rw [mst_row _ _ _ (by omega), ms_r, pu_n (by omega)]; exact q2 i (by omega)
    · skip
      rw [ms_r]
      by_cases e : i = k
      · rw [e, pu_s]
      · rw [pu_n e, mst_row _ _ _ (by omega)]; exact q3 i (by omega)
    · skip
      rw [ms_r, pu_n (by omega), mst_row _ _ _ (by omega)]; exact q4 i (by omega)
    · skip
      rw [mst_row _ _ _ h2, mst_row _ _ _ h1]; exact q5 a h1 h2
  · obtain ⟨J', K', rfl, q1, q2, q3, q4, q5⟩ := hs
    exact ok_neg (nI_nlt (a := 10) (b := 10) (by omega) (by omega)) (ok_some ⟨q1, q3, q4, q5⟩)
  obtain ⟨s1, J3, K3⟩ := s
  obtain ⟨g1, g2, g3, g4⟩ := hs
  dsimp only at g1 g2 g3 g4
  -- orders
  refine ok_bind (P := fun s : Int32 × MJ × MI => (∀ i, i < 16 → s.2.2 (m + 11) i = K3 (m + 11) (16 + i)) ∧ ∀ a, a ≠ m + 11 → s.2.2 a = K3 a) (ok_up 16 (fun k s => ∃ J' K', s = (nI k, J', K') ∧ (∀ i, i < k → K' (m + 11) i = K3 (m + 11) (16 + i)) ∧ (∀ i, k ≤ i → K' (m + 11) i = K3 (m + 11) i) ∧ ∀ a, a ≠ m + 11 → K' a = K3 a) (fun k s hk hs => ?_) (fun s hs => ?_) 0 _ (by omega) ⟨J3, K3, rfl, fun i hi => by omega, fun _ _ => rfl, fun _ _ => rfl⟩) (fun s hs => ?_)
  · obtain ⟨J', K', rfl, q1, q2, q3⟩ := hs
    refine ok_pos (nI_lt (b := 16) hk (by omega)) (ok_bs (rd_k (16 + k) (ci_a rfl k) (by omega) (by omega)) (ok_wr k rfl (by omega) (by omega) (ok_bs (rd_v (v := K3 (m + 11) (16 + k)) (16 + k) (ci_a rfl k) (by omega) (by omega) (q2 _ (by omega))) (ok_wr k rfl (by omega) (by omega) (ok_some ⟨_, _, by dsimp only; rw [nI_1], fun i hi => ?_, fun i hi => ?_, fun a ha => ?_⟩)))))
    · skip
      rw [ms_r]
      by_cases e : i = k
      · rw [e, pu_s]
      · rw [pu_n e]; exact q1 i (by omega)
    · skip
      rw [ms_r, pu_n (by omega)]; exact q2 i (by omega)
    · skip
      rw [mst_row _ _ _ ha]; exact q3 a ha
  · obtain ⟨J', K', rfl, q1, q2, q3⟩ := hs
    exact ok_neg (nI_nlt (a := 16) (b := 16) (by omega) (by omega)) (ok_some ⟨q1, q3⟩)
  obtain ⟨s2, J4, K4⟩ := s
  obtain ⟨h1, h2⟩ := hs
  dsimp only at h1 h2
  refine ok_bind (P := fun s : Int32 × MI => (∀ i, i < 160 → s.2 (m + 12) i = K4 (m + 12) (160 + i)) ∧ ∀ a, a ≠ m + 12 → s.2 a = K4 a) (ok_up 160 (fun k s => ∃ K', s = (nI k, K') ∧ (∀ i, i < k → K' (m + 12) i = K4 (m + 12) (160 + i)) ∧ (∀ i, k ≤ i → K' (m + 12) i = K4 (m + 12) i) ∧ ∀ a, a ≠ m + 12 → K' a = K4 a) (fun k s hk hs => ?_) (fun s hs => ?_) 0 _ (by omega) ⟨K4, rfl, fun i hi => by omega, fun _ _ => rfl, fun _ _ => rfl⟩) (fun s hs => ok_some ?_)
  · obtain ⟨K', rfl, q1, q2, q3⟩ := hs
    refine ok_pos (nI_lt (b := 160) hk (by omega)) (ok_bs (rd_v (v := K4 (m + 12) (160 + k)) (160 + k) (ci_a rfl k) (by omega) (by omega) (q2 _ (by omega))) (ok_wr k rfl (by omega) (by omega) (ok_some ⟨_, by dsimp only; rw [nI_1], fun i hi => ?_, fun i hi => ?_, fun a ha => ?_⟩)))
    · skip
      rw [ms_r]
      by_cases e : i = k
      · rw [e, pu_s]
      · rw [pu_n e]; exact q1 i (by omega)
    · skip
      rw [ms_r, pu_n (by omega)]; exact q2 i (by omega)
    · skip
      rw [mst_row _ _ _ ha]; exact q3 a ha
  · obtain ⟨K', rfl, q1, q2, q3⟩ := hs
    exact ok_neg (nI_nlt (a := 160) (b := 160) (by omega) (by omega)) (ok_some ⟨q1, q3⟩)
  obtain ⟨s3, K5⟩ := s
  obtain ⟨k1, k2⟩ := hs
  dsimp only at k1 k2
  have all : ∀ a, a ≠ m + 8 → a ≠ m + 11 → a ≠ m + 12 → a ≠ m + 13 → K5 a = K1 a := fun a a8 a11 a12 a13 => by rw [k2 a a12, h2 a a11, g4 a a8 a13, f2 a a13]
  have k13 : K5 (m + 13) = K3 (m + 13) := by rw [k2 _ (by omega), h2 _ (by omega)]
  refine ⟨⟨⟨?_, ?_, ?_, ?_, ?_⟩, fun i hi => ?_, fun o ho => ?_, fun c hc => ?_⟩, em_f hI (fun k hk1 hk2 => ?_) (fun i hi => ?_), fun a ha => ?_⟩
  · dsimp only; rw [all _ (by omega) (by omega) (by omega) (by omega)]; exact e2
  · dsimp only; rw [all _ (by omega) (by omega) (by omega) (by omega)]; exact e3
  · dsimp only; rw [all _ (by omega) (by omega) (by omega) (by omega)]; exact e4
  · dsimp only; rw [all _ (by omega) (by omega) (by omega) (by omega)]; exact e5
  · dsimp only; rw [all _ (by omega) (by omega) (by omega) (by omega)]; exact e6
  · have hi' : i < bI B := hi
    dsimp only
    rw [k2 _ (by omega), h2 _ (by omega), g1 i (by omega), f2 _ (by omega), eo _ (by omega)]
    exact (d1 i hi').2.1
  · have ho' : o < bO B := ho
    dsimp only
    rw [k2 _ (by omega), h1 o (by omega), g4 _ (by omega) (by omega), f2 _ (by omega), eo _ (by omega)]
    exact (d2 o ho').2
  · dsimp only
    rw [k1 c hc, h2 _ (by omega), g4 _ (by omega) (by omega), f2 _ (by omega), eo _ (by omega)]
    exact d3 c hc
  · dsimp only
    rw [k13, g3 k hk1]
    exact ⟨fun q => f1.1 k hk2 q, fun q => f1.2 k q.1 q.2⟩
  · dsimp only
    rw [k13, g2 i (by omega), if_pos hi, f2 _ (by omega), eo _ (by omega)]
    exact (d1 i hi).2.2
  · dsimp only
    rw [all a (by omega) (by omega) (by omega) (by omega)]
    exact eo a (by omega)
end Cpm
