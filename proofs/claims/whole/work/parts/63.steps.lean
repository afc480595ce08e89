/-! tokens: the reference -/
theorem lw_inj {x y : Int64} (h : x.toBitVec = y.toBitVec) : x = y := Int64.toBitVec_inj.mp h
theorem lw_tb (n : Nat) : (lN n).toBitVec = BitVec.ofNat 64 n := rfl
theorem lw_5 : ((5 : Int32).toInt64 &&& 63) = lN 5 := by decide +kernel
theorem lw_s : (BitVec.ofNat 64 5).smod 64 = BitVec.ofNat 64 5 := by decide +kernel
theorem lw_shl {n : Nat} : lN n <<< ((5 : Int32).toInt64 &&& 63) = lN (n * 32) := by
  rw [lw_5]
  apply lw_inj
  rw [Int64.toBitVec_shiftLeft, lw_tb, lw_tb, lw_tb, lw_s]
  apply BitVec.eq_of_toNat_eq
  rw [BitVec.shiftLeft_eq', BitVec.toNat_shiftLeft, BitVec.toNat_ofNat, BitVec.toNat_ofNat, BitVec.toNat_ofNat, Nat.mod_eq_of_lt (show 5 < 2 ^ 64 by omega), Nat.shiftLeft_eq, Nat.mul_mod, Nat.mod_mod, ← Nat.mul_mod]
theorem lw_or {a b : Nat} (ha : a < 2 ^ 63) (hb : b < 2 ^ 63) : lN a ||| lN b = lN (a ||| b) := by
  apply lw_inj
  rw [Int64.toBitVec_or, lw_tb, lw_tb, lw_tb]
  apply BitVec.eq_of_toNat_eq
  rw [BitVec.toNat_or, BitVec.toNat_ofNat, BitVec.toNat_ofNat, BitVec.toNat_ofNat, Nat.mod_eq_of_lt (by omega), Nat.mod_eq_of_lt (by omega), Nat.mod_eq_of_lt (Nat.lt_trans (Nat.or_lt_two_pow ha hb) (by omega))]
theorem lw_st {v d : Nat} (hv : v < 2 ^ 40) (hd : d < 32) : (lN v <<< ((5 : Int32).toInt64 &&& 63)) ||| lN d = lN (v * 32 + d) := by
  rw [lw_shl, lw_or (by omega) (by omega)]
  congr 1
  have := Nat.shiftLeft_add_eq_or_of_lt (a := v) (b := d) (i := 5) hd
  rw [Nat.shiftLeft_eq] at this
  exact this.symm
theorem wd_2 : ∀ j, j < 256 → f_X5_within (nI j).toInt64 48 57 = some (if kn j = 2 then 1 else 0) := by decide +kernel
theorem wd_1 : ∀ j, j < 256 → f_X5_within (nI j).toInt64 97 122 = some (if kn j = 1 then 1 else 0) := by decide +kernel
theorem wd_m2 : f_X5_within (-1 : Int32).toInt64 48 57 = some 0 := by decide +kernel
theorem wd_m1 : f_X5_within (-1 : Int32).toInt64 97 122 = some 0 := by decide +kernel
def sgn (bt : Nat → Nat) (n k : Nat) : Int32 := if k < n then nI (bt k) else -1
/-- the reference's reader -/
def MK (K : MI) (J : MJ) (m n : Nat) (t : Tk) : Prop := K m 3 = nI n ∧ K m 4 = nI t.1 ∧ K m 5 = nI t.2.1 ∧ K m 6 = nI t.2.2.1 ∧ (t.2.2.1 = 2 → K m 7 = nI t.2.2.2) ∧ (t.2.2.1 = 1 → J m 8 = lN t.2.2.2)
section Stp
variable {m n : Nat} {bt : Nat → Nat}
theorem se_m {K : MI} {J : MJ} {k : Nat} (hT : Tape K (m + 1) n bt) (h3 : K m 3 = nI n) (hk : k ≤ n) : f_X5_see m (nI k) J K = some (sgn bt n k) := by
  have h600 := hT.1
  unfold f_X5_see sgn
  rw [h3]
  by_cases h : k < n
  · obtain ⟨hb, hv⟩ := hT.2 k h
    rw [if_pos h]
    refine bnd_s (it_p (nI_lt h (by omega)) (bnd_s (rd_v k rfl (by omega) (by omega) hv) rfl)) ?_
    rw [b8_a _ hb]
  · rw [if_neg h]
    exact bnd_s (it_n (nI_nlt (by omega) (by omega)) rfl) rfl
theorem bl_m {J : MJ} : ∀ k e (K : MI), e + k = n → Tape K (m + 1) n bt → K m 3 = nI n → K m 4 = nI e → Ok (lp (b_X5_steps_8 m J) K) (fun K' => K' m 4 = nI (nE (fun k => decide (kn (bt k) ≠ 5)) k e) ∧ (∀ j, j ≠ 4 → K' m j = K m j) ∧ ∀ b, b ≠ m → K' b = K b) := by
  intro k
  induction k with
  | zero =>
    intro e K he hT h3 h4
    have hs : f_X5_see m (K m 4) J K = some (-1) := by rw [h4, se_m hT h3 (by omega)]; unfold sgn; rw [if_neg (by omega)]
    exact Ok.mk (lp_done (bnd_s hs (it_n (by decide) (bnd_s hs (it_n (by decide) rfl))))) ⟨h4, fun _ _ => rfl, fun _ _ => rfl⟩
  | succ k ih =>
    intro e K he hT h3 h4
    have h600 := hT.1
    obtain ⟨hb, hv⟩ := hT.2 e (by omega)
    have hs : f_X5_see m (K m 4) J K = some (nI (bt e)) := by rw [h4, se_m hT h3 (by omega)]; unfold sgn; rw [if_pos (by omega)]
    rw [nE]
    by_cases h5 : kn (bt e) = 5
    · rw [if_neg (by simp [h5])]
      refine ok_next (s' := mst K m 4 (nI (e + 1))) ?_ ((ih (e + 1) _ (by omega) (hT.fr (mst_row _ _ _ (by omega))) (by rw [mst_ne _ _ (Or.inr (by omega))]; exact h3) (mst_self _ _ _ _)).im (fun K' hK' => ⟨hK'.1, fun j hj => by rw [hK'.2.1 j hj, mst_ne _ _ (Or.inr hj)], fun b hb' => by rw [hK'.2.2 b hb', mst_row _ _ _ hb']⟩))
      rcases kn_5.mp h5 with q | q
      · refine bnd_s hs (it_p (by rw [q]; rfl) (bnd_s rfl ?_))
        rw [h4, nI_1]
      · refine bnd_s hs (it_n (by rw [q]; decide) (bnd_s hs (it_p (by rw [q]; rfl) (bnd_s rfl ?_))))
        rw [h4, nI_1]
    · rw [if_pos (by simpa using h5)]
      have h5' := fun q => h5 (kn_5.mpr q)
      exact Ok.mk (lp_done (bnd_s hs (it_n (fun q => h5' (Or.inl ((nI_eq (b := 32) (by omega) (by omega)).mp q))) (bnd_s hs (it_n (fun q => h5' (Or.inr ((nI_eq (b := 10) (by omega) (by omega)).mp q))) rfl))))) ⟨h4, fun _ _ => rfl, fun _ _ => rfl⟩
theorem dg_m {J : MJ} {f : Nat} : ∀ k e (K : MI), e + k = n → f ≤ e → (∀ j, f ≤ j → j < e → kn (bt j) = 2) → Tape K (m + 1) n bt → K m 3 = nI n → K m 4 = nI f → K m 5 = nI e → K m 7 = nI (rv bt 10 48 f (min 2 (e - f))) → Ok (lp (b_X5_steps_265 m J) K) (fun K' => K' m 5 = nI (nE (fun k => decide (kn (bt k) ≠ 2)) k e) ∧ K' m 7 = nI (rv bt 10 48 f (min 2 (nE (fun k => decide (kn (bt k) ≠ 2)) k e - f))) ∧ (∀ j, j ≠ 5 → j ≠ 7 → K' m j = K m j) ∧ ∀ b, b ≠ m → K' b = K b) := by
  intro k
  induction k with
  | zero =>
    intro e K he hf hrun hT h3 h4 h5 h7
    have hs : f_X5_see m (K m 5) J K = some (-1) := by rw [h5, se_m hT h3 (by omega)]; unfold sgn; rw [if_neg (by omega)]
    exact Ok.mk (lp_done (bnd_s hs (bnd_s wd_m2 (it_p rfl rfl)))) ⟨h5, h7, fun _ _ _ => rfl, fun _ _ => rfl⟩
  | succ k ih =>
    intro e K he hf hrun hT h3 h4 h5 h7
    have h600 := hT.1
    obtain ⟨hb, hv⟩ := hT.2 e (by omega)
    have hs : f_X5_see m (K m 5) J K = some (nI (bt e)) := by rw [h5, se_m hT h3 (by omega)]; unfold sgn; rw [if_pos (by omega)]
    rw [nE]
    by_cases h2 : kn (bt e) = 2
    · rw [if_neg (by simp [h2])]
      have hr := kn_2.mp h2
      refine ok_next (s' := mst (mst K m 7 (nI (rv bt 10 48 f (min 2 (e + 1 - f))))) m 5 (nI (e + 1))) ?_ ((ih (e + 1) _ (by omega) (by omega) (fun j h1 h2' => ?_) (hT.fr (by rw [mst_row _ _ _ (by omega), mst_row _ _ _ (by omega)])) ?_ ?_ (mst_self _ _ _ _) ?_).im (fun K' hK' => ⟨hK'.1, hK'.2.1, fun j h1 h2' => ?_, fun b hb' => ?_⟩))
      · refine bnd_s hs (bnd_s (wd_2 _ hb) (it_n (by rw [if_pos h2]; decide) (bnd_s (a := nI (rv bt 10 48 f (min 2 (e + 1 - f)))) ?_ (bnd_s rfl (bnd_s rfl ?_)))))
        · have hsub : K m 5 - K m 4 = nI (e - f) := by rw [h5, h4, nI_sub hf]
          by_cases hlg : e - f < 2
          · refine it_p (by rw [hsub]; exact nI_lt (b := 2) hlg (by omega)) (bnd_s hs ?_)
            have e1 : min 2 (e - f) = e - f := by omega
            have e2 : min 2 (e + 1 - f) = (e - f) + 1 := by omega
            rw [h7, l_10, nI_mul, nI_add, show (48 : Int32) = nI 48 from rfl, nI_sub (by omega), e1, e2, rv, show f + (e - f) = e by omega, Nat.mul_comm 10]
          · refine it_n (by rw [hsub]; exact nI_nlt (b := 2) (by omega) (by omega)) ?_
            rw [h7, show min 2 (e - f) = min 2 (e + 1 - f) by omega]
        · rw [mst_ne _ _ (Or.inr (by omega)), h5, nI_1]
      · by_cases q : j = e
        · rw [q]; exact h2
        · exact hrun j h1 (by omega)
      · rw [mst_ne _ _ (Or.inr (by omega)), mst_ne _ _ (Or.inr (by omega))]; exact h3
      · rw [mst_ne _ _ (Or.inr (by omega)), mst_ne _ _ (Or.inr (by omega))]; exact h4
      · rw [mst_ne _ _ (Or.inr (by omega)), mst_self]
      · rw [hK'.2.2.1 j h1 h2', mst_ne _ _ (Or.inr h1), mst_ne _ _ (Or.inr h2')]
      · rw [hK'.2.2.2 b hb', mst_row _ _ _ hb', mst_row _ _ _ hb']
    · rw [if_pos (by simpa using h2)]
      exact Ok.mk (lp_done (bnd_s hs (bnd_s (wd_2 _ hb) (it_p (if_neg h2) rfl)))) ⟨h5, h7, fun _ _ _ => rfl, fun _ _ => rfl⟩
theorem lt_m {f : Nat} : ∀ k e (J : MJ) (K : MI), e + k = n → f ≤ e → (∀ j, f ≤ j → j < e → kn (bt j) = 1) → Tape K (m + 1) n bt → K m 3 = nI n → K m 4 = nI f → K m 5 = nI e → J m 8 = lN (rv bt 32 96 f (min 6 (e - f))) → Ok (lp (b_X5_steps_138 m) (J, K)) (fun s => s.2 m 5 = nI (nE (fun k => decide (kn (bt k) ≠ 1)) k e) ∧ s.1 m 8 = lN (rv bt 32 96 f (min 6 (nE (fun k => decide (kn (bt k) ≠ 1)) k e - f))) ∧ (∀ j, j ≠ 5 → s.2 m j = K m j) ∧ (∀ b, b ≠ m → s.2 b = K b) ∧ (∀ j, j ≠ 8 → s.1 m j = J m j) ∧ ∀ b, b ≠ m → s.1 b = J b) := by
  intro k
  induction k with
  | zero =>
    intro e J K he hf hrun hT h3 h4 h5 h8
    have hs : f_X5_see m (K m 5) J K = some (-1) := by rw [h5, se_m hT h3 (by omega)]; unfold sgn; rw [if_neg (by omega)]
    exact Ok.mk (lp_done (bnd_s hs (bnd_s wd_m1 (it_p rfl rfl)))) ⟨h5, h8, fun _ _ => rfl, fun _ _ => rfl, fun _ _ => rfl, fun _ _ => rfl⟩
  | succ k ih =>
    intro e J K he hf hrun hT h3 h4 h5 h8
    have h600 := hT.1
    obtain ⟨hb, hv⟩ := hT.2 e (by omega)
    have hs : f_X5_see m (K m 5) J K = some (nI (bt e)) := by rw [h5, se_m hT h3 (by omega)]; unfold sgn; rw [if_pos (by omega)]
    rw [nE]
    by_cases h2 : kn (bt e) = 1
    · rw [if_neg (by simp [h2])]
      have hr := kn_1.mp h2
      refine ok_next (s' := (mst J m 8 (lN (rv bt 32 96 f (min 6 (e + 1 - f)))), mst K m 5 (nI (e + 1)))) ?_ ((ih (e + 1) _ _ (by omega) (by omega) (fun j h1 h2' => ?_) (hT.fr (mst_row _ _ _ (by omega))) ?_ ?_ (mst_self _ _ _ _) (mst_self _ _ _ _)).im (fun s hs' => ⟨hs'.1, hs'.2.1, fun j h1 => ?_, fun b hb' => ?_, fun j h1 => ?_, fun b hb' => ?_⟩))
      · refine bnd_s hs (bnd_s (wd_1 _ hb) (it_n (by rw [if_pos h2]; decide) (bnd_s (a := lN (rv bt 32 96 f (min 6 (e + 1 - f)))) ?_ (bnd_s rfl (bnd_s rfl ?_)))))
        · have hsub : K m 5 - K m 4 = nI (e - f) := by rw [h5, h4, nI_sub hf]
          by_cases hlg : e - f < 6
          · refine it_p (by dsimp only; rw [hsub]; exact nI_lt (b := 6) hlg (by omega)) (bnd_s hs ?_)
            have e1 : min 6 (e - f) = e - f := by omega
            have e2 : min 6 (e + 1 - f) = (e - f) + 1 := by omega
            have hv6 := (rv_lt32 (bt := bt) (n := n) (f := f) (e - f) (fun j hj => hrun (f + j) (by omega) (by omega))).1
            have hv7 : 32 ^ (e - f) ≤ 32 ^ 6 := Nat.pow_le_pow_right (by omega) (by omega)
            dsimp only
            rw [h8, nI_l (by omega), show (96 : Int64) = lN 96 from rfl, lN_sub (by omega), e1, lw_st (by omega) (by omega), e2, rv, show f + (e - f) = e by omega]
            congr 2
            omega
          · refine it_n (by dsimp only; rw [hsub]; exact nI_nlt (b := 6) (by omega) (by omega)) ?_
            dsimp only
            rw [h8, show min 6 (e - f) = min 6 (e + 1 - f) by omega]
        · dsimp only
          rw [h5, nI_1]
      · by_cases q : j = e
        · rw [q]; exact h2
        · exact hrun j h1 (by omega)
      · rw [mst_ne _ _ (Or.inr (by omega))]; exact h3
      · rw [mst_ne _ _ (Or.inr (by omega))]; exact h4
      · rw [hs'.2.2.1 j h1, mst_ne _ _ (Or.inr h1)]
      · rw [hs'.2.2.2.1 b hb', mst_row _ _ _ hb']
      · rw [hs'.2.2.2.2.1 j h1, mst_ne _ _ (Or.inr h1)]
      · rw [hs'.2.2.2.2.2 b hb', mst_row _ _ _ hb']
    · rw [if_pos (by simpa using h2)]
      exact Ok.mk (lp_done (bnd_s hs (bnd_s (wd_1 _ hb) (it_p (if_neg h2) rfl)))) ⟨h5, h8, fun _ _ => rfl, fun _ _ => rfl, fun _ _ => rfl, fun _ _ => rfl⟩
theorem st_k {J : MJ} {K : MI} {p : Nat} (hT : Tape K (m + 1) n bt) (hp : p ≤ n) (h3 : K m 3 = nI n) (h5 : K m 5 = nI p) : Ok (f_X5_steps m J K) (fun r => MK r.2 r.1 m n (tok bt n p) ∧ (∀ j, j < 4 ∨ 7 < j → r.2 m j = K m j) ∧ (∀ b, b ≠ m → r.2 b = K b) ∧ (∀ j, j ≠ 8 → r.1 m j = J m j) ∧ ∀ b, b ≠ m → r.1 b = J b) := by
  have h600 := hT.1
  unfold f_X5_steps
  refine ok_wq (fun K0 hK0 => ?_)
  have hT0 : Tape K0 (m + 1) n bt := hT.fr (by rw [hK0, mst_row _ _ _ (by omega)])
  refine ok_bind (bl_m (J := J) (n - p) p K0 (by omega) hT0 (by rw [hK0, mst_ne _ _ (Or.inr (by omega))]; exact h3) (by rw [hK0, mst_self]; exact h5)) (fun K1 hK1 => ?_)
  obtain ⟨q1, q2, q3⟩ := hK1
  change K1 m 4 = nI (bne bt n p) at q1
  obtain ⟨b1, b2, b3⟩ := bne_s (bt := bt) hp
  have a3 : K1 m 3 = nI n := by rw [q2 3 (by omega), hK0, mst_ne _ _ (Or.inr (by omega))]; exact h3
  have af : ∀ b, b ≠ m → K1 b = K b := fun b hb => by rw [q3 b hb, hK0, mst_row _ _ _ hb]
  have aj : ∀ j, j ≠ 4 → K1 m j = K m j := fun j hj => by rw [q2 j hj, hK0, mst_ne _ _ (Or.inr hj)]
  have hT1 : Tape K1 (m + 1) n bt := hT.fr (af _ (by omega))
  unfold tok tkA
  generalize bne bt n p = f at q1 b1 b2 b3 ⊢
  have hs : f_X5_see m (K1 m 4) J K1 = some (sgn bt n f) := by rw [q1]; exact se_m hT1 a3 b2
  refine ok_bs hs (ok_wq (fun K2 hK2 => ok_wq (fun K3 hK3 => ok_wq (fun K4 hK4 => ok_wq (fun J1 hJ1 => ?_)))))
  have c3 : K4 m 3 = nI n := by rw [hK4, mst_ne _ _ (Or.inr (by omega)), hK3, mst_ne _ _ (Or.inr (by omega)), hK2, mst_ne _ _ (Or.inr (by omega))]; exact a3
  have c4 : K4 m 4 = nI f := by rw [hK4, mst_ne _ _ (Or.inr (by omega)), hK3, mst_ne _ _ (Or.inr (by omega)), hK2, mst_ne _ _ (Or.inr (by omega))]; exact q1
  have c5 : K4 m 5 = nI (f + 1) := by rw [hK4, mst_ne _ _ (Or.inr (by omega)), hK3, mst_ne _ _ (Or.inr (by omega)), hK2, mst_self, q1, nI_1]
  have c6 : K4 m 6 = nI 4 := by rw [hK4, mst_ne _ _ (Or.inr (by omega)), hK3, mst_self]; rfl
  have c7 : K4 m 7 = 0 := by rw [hK4, mst_self]
  have cj : ∀ j, j < 4 ∨ 7 < j → K4 m j = K m j := fun j hj => by rw [hK4, mst_ne _ _ (Or.inr (by omega)), hK3, mst_ne _ _ (Or.inr (by omega)), hK2, mst_ne _ _ (Or.inr (by omega))]; exact aj j (by omega)
  have cf : ∀ b, b ≠ m → K4 b = K b := fun b hb => by rw [hK4, mst_row _ _ _ hb, hK3, mst_row _ _ _ hb, hK2, mst_row _ _ _ hb]; exact af b hb
  have d8 : J1 m 8 = lN 0 := by rw [hJ1, mst_self]; rfl
  have dj : ∀ j, j ≠ 8 → J1 m j = J m j := fun j hj => by rw [hJ1, mst_ne _ _ (Or.inr hj)]
  have df' : ∀ b, b ≠ m → J1 b = J b := fun b hb => by rw [hJ1, mst_row _ _ _ hb]
  have hT4 : Tape K4 (m + 1) n bt := hT.fr (cf _ (by omega))
  by_cases hf : f < n
  · rw [if_pos hf]
    obtain ⟨hb, hv⟩ := hT4.2 f hf
    have hk := kn_le (bt f)
    have h5' := b3 hf
    have hsg : sgn bt n f = nI (bt f) := by unfold sgn; rw [if_pos hf]
    rw [hsg]
    have n1 : ¬ nI (bt f) = -1 := ne_m1 (j := bt f) (by omega) rfl
    refine ok_bind (P := fun r : MJ × MI => MK r.2 r.1 m n (if kn (bt f) = 1 then (f, rne bt n 1 f, if rne bt n 1 f - f ≤ 6 then 1 else 4, rv bt 32 96 f (min 6 (rne bt n 1 f - f))) else if kn (bt f) = 2 then (f, rne bt n 2 f, if rne bt n 2 f - f ≤ 2 then 2 else 4, rv bt 10 48 f (min 2 (rne bt n 2 f - f))) else (f, f + 1, kn (bt f), 0)) ∧ (∀ j, j < 4 ∨ 7 < j → r.2 m j = K m j) ∧ (∀ b, b ≠ m → r.2 b = K b) ∧ (∀ j, j ≠ 8 → r.1 m j = J m j) ∧ ∀ b, b ≠ m → r.1 b = J b) (ok_neg n1 ?_) (fun r hr => ok_some hr)
    by_cases k3 : kn (bt f) = 3
    · rw [if_neg (show ¬ kn (bt f) = 1 by omega), if_neg (show ¬ kn (bt f) = 2 by omega), k3]
      refine ok_pos (by rw [kn_3.mp k3]; rfl) (ok_wf (ok_some ⟨⟨?_, ?_, ?_, ?_, fun q => by simp at q, fun q => by simp at q⟩, fun j hj => ?_, fun b hb' => ?_, dj, df'⟩))
      · dsimp only; rw [mst_ne _ _ (Or.inr (by omega))]; exact c3
      · dsimp only; rw [mst_ne _ _ (Or.inr (by omega))]; exact c4
      · dsimp only; rw [mst_ne _ _ (Or.inr (by omega))]; exact c5
      · dsimp only; rw [mst_self]; rfl
      · dsimp only; rw [mst_ne _ _ (Or.inr (by omega))]; exact cj j hj
      · dsimp only; rw [mst_row _ _ _ hb']; exact cf b hb'
    refine ok_neg (fun q => k3 (kn_3.mpr ((nI_eq (b := 59) (by omega) (by omega)).mp q))) (ok_bs (wd_1 _ hb) ?_)
    by_cases k1 : kn (bt f) = 1
    · rw [if_pos k1, if_pos k1]
      refine ok_neg (by decide) (ok_wq (fun K5 hK5 => ?_))
      have e5 : K5 m 5 = nI f := by rw [hK5, mst_self]; exact c4
      have ej : ∀ j, j ≠ 5 → K5 m j = K4 m j := fun j hj => by rw [hK5, mst_ne _ _ (Or.inr hj)]
      have ef : ∀ b, b ≠ m → K5 b = K b := fun b hb' => by rw [hK5, mst_row _ _ _ hb']; exact cf b hb'
      refine ok_bind (lt_m (bt := bt) (f := f) (n - f) f J1 K5 (by omega) (Nat.le_refl _) (fun j h1 h2 => by omega) (hT.fr (ef _ (by omega))) (by rw [ej 3 (by omega)]; exact c3) (by rw [ej 4 (by omega)]; exact c4) e5 (by rw [Nat.sub_self, Nat.min_zero]; exact d8)) (fun s hs => ?_)
      obtain ⟨J2, K6⟩ := s
      obtain ⟨g1, g2, g3, g4, g5, g6⟩ := hs
      dsimp only at g1 g2 g3 g4 g5 g6
      change K6 m 5 = nI (rne bt n 1 f) at g1
      change J2 m 8 = lN (rv bt 32 96 f (min 6 (rne bt n 1 f - f))) at g2
      have hrn := rne_s hf k1
      have hsub : K6 m 5 - K6 m 4 = nI (rne bt n 1 f - f) := by rw [g1, g3 4 (by omega), ej 4 (by omega), c4, nI_sub (by omega)]
      refine ok_bs (a := nI (if rne bt n 1 f - f ≤ 6 then 1 else 4)) ?_ (ok_wf (ok_some ⟨⟨?_, ?_, ?_, mst_self _ _ _ _, fun q => ?_, fun _ => g2⟩, fun j hj => ?_, fun b hb' => ?_, fun j hj => (g5 j hj).trans (dj j hj), fun b hb' => (g6 b hb').trans (df' b hb')⟩))
      · by_cases q : rne bt n 1 f - f ≤ 6
        · rw [if_pos q]
          exact it_p (by dsimp only; rw [hsub]; exact nI_lt (b := 7) (by omega) (by omega)) rfl
        · rw [if_neg q]
          exact it_n (by dsimp only; rw [hsub]; exact nI_nlt (b := 7) (by omega) (by omega)) rfl
      · dsimp only; rw [mst_ne _ _ (Or.inr (by omega)), g3 3 (by omega), ej 3 (by omega)]; exact c3
      · dsimp only; rw [mst_ne _ _ (Or.inr (by omega)), g3 4 (by omega), ej 4 (by omega)]; exact c4
      · dsimp only; rw [mst_ne _ _ (Or.inr (by omega))]; exact g1
      · dsimp only at q
        split at q <;> omega
      · dsimp only; rw [mst_ne _ _ (Or.inr (by omega)), g3 j (by omega), ej j (by omega)]; exact cj j hj
      · dsimp only; rw [mst_row _ _ _ hb', g4 b hb']; exact ef b hb'
    rw [if_neg k1, if_neg k1]
    refine ok_pos rfl (ok_bs (wd_2 _ hb) ?_)
    by_cases k2 : kn (bt f) = 2
    · rw [if_pos k2, if_pos k2]
      refine ok_neg (by decide) (ok_wq (fun K5 hK5 => ?_))
      have e5 : K5 m 5 = nI f := by rw [hK5, mst_self]; exact c4
      have ej : ∀ j, j ≠ 5 → K5 m j = K4 m j := fun j hj => by rw [hK5, mst_ne _ _ (Or.inr hj)]
      have ef : ∀ b, b ≠ m → K5 b = K b := fun b hb' => by rw [hK5, mst_row _ _ _ hb']; exact cf b hb'
      refine ok_bind (dg_m (J := J1) (bt := bt) (f := f) (n - f) f K5 (by omega) (Nat.le_refl _) (fun j h1 h2 => by omega) (hT.fr (ef _ (by omega))) (by rw [ej 3 (by omega)]; exact c3) (by rw [ej 4 (by omega)]; exact c4) e5 (by rw [Nat.sub_self, Nat.min_zero, ej 7 (by omega)]; exact c7)) (fun K6 hK6 => ?_)
      obtain ⟨g1, g2, g3, g4⟩ := hK6
      change K6 m 5 = nI (rne bt n 2 f) at g1
      change K6 m 7 = nI (rv bt 10 48 f (min 2 (rne bt n 2 f - f))) at g2
      have hrn := rne_s hf k2
      have hsub : K6 m 5 - K6 m 4 = nI (rne bt n 2 f - f) := by rw [g1, g3 4 (by omega) (by omega), ej 4 (by omega), c4, nI_sub (by omega)]
      refine ok_bs (a := nI (if rne bt n 2 f - f ≤ 2 then 2 else 4)) ?_ (ok_wf (ok_some ⟨⟨?_, ?_, ?_, mst_self _ _ _ _, fun _ => ?_, fun q => ?_⟩, fun j hj => ?_, fun b hb' => ?_, dj, df'⟩))
      · by_cases q : rne bt n 2 f - f ≤ 2
        · rw [if_pos q]
          exact it_p (by rw [hsub]; exact nI_lt (b := 3) (by omega) (by omega)) rfl
        · rw [if_neg q]
          exact it_n (by rw [hsub]; exact nI_nlt (b := 3) (by omega) (by omega)) rfl
      · dsimp only; rw [mst_ne _ _ (Or.inr (by omega)), g3 3 (by omega) (by omega), ej 3 (by omega)]; exact c3
      · dsimp only; rw [mst_ne _ _ (Or.inr (by omega)), g3 4 (by omega) (by omega), ej 4 (by omega)]; exact c4
      · dsimp only; rw [mst_ne _ _ (Or.inr (by omega))]; exact g1
      · dsimp only; rw [mst_ne _ _ (Or.inr (by omega))]; exact g2
      · dsimp only at q
        split at q <;> omega
      · dsimp only; rw [mst_ne _ _ (Or.inr (by omega)), g3 j (by omega) (by omega), ej j (by omega)]; exact cj j hj
      · dsimp only; rw [mst_row _ _ _ hb', g4 b hb']; exact ef b hb'
    · rw [if_neg k2, if_neg k2]
      refine ok_pos rfl (ok_some ⟨⟨c3, c4, c5, ?_, fun q => absurd q k2, fun q => absurd q k1⟩, cj, cf, dj, df'⟩)
      dsimp only
      rw [c6]
      congr 1
      omega
  · rw [if_neg hf]
    obtain rfl : f = n := by omega
    have hsg : sgn bt f f = -1 := by unfold sgn; rw [if_neg hf]
    rw [hsg]
    refine ok_bs (it_p rfl (bnd_s rfl (bnd_s rfl rfl))) (ok_some ⟨⟨?_, ?_, ?_, ?_, fun q => by simp at q, fun q => by simp at q⟩, fun j hj => ?_, fun b hb' => ?_, dj, df'⟩)
    · dsimp only; rw [mst_ne _ _ (Or.inr (by omega)), mst_ne _ _ (Or.inr (by omega))]; exact c3
    · dsimp only; rw [mst_ne _ _ (Or.inr (by omega)), mst_ne _ _ (Or.inr (by omega))]; exact c4
    · dsimp only; rw [mst_ne _ _ (Or.inr (by omega)), mst_self]; exact c4
    · dsimp only; rw [mst_self]; rfl
    · dsimp only; rw [mst_ne _ _ (Or.inr (by omega)), mst_ne _ _ (Or.inr (by omega))]; exact cj j hj
    · dsimp only; rw [mst_row _ _ _ hb', mst_row _ _ _ hb']; exact cf b hb'
end Stp
