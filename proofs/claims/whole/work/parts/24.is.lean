/-! counting bits; is it one of so many -/
theorem ct_rm {p q : Nat → Bool} {k n : Nat} (h : ∀ i, q i = (p i && decide (i ≠ k))) (hp : p k = true) (hk : k < n) : ct q n + 1 = ct p n := by
  induction n with
  | zero => omega
  | succ n ih =>
    rw [ct, ct, h n]
    by_cases e : k = n
    · subst e
      have : ct q k = ct p k := ct_cg (fun i hi => by rw [h i]; have : i ≠ k := by omega
                                                      simp [this])
      rw [this, hp]
      simp
    · have h1 := ih (by omega)
      have h2 : n ≠ k := fun q => e q.symm
      simp only [h2, ne_eq, not_false_eq_true, decide_true, Bool.and_true]
      omega
theorem low_bit : ∀ a : Nat, a ≠ 0 → ∃ k, a.testBit k = true ∧ ∀ i, (a &&& (a - 1)).testBit i = (a.testBit i && decide (i ≠ k)) := by
  intro a
  induction a using Nat.strongRecOn with
  | ind a ih =>
    intro h0
    by_cases hp : a % 2 = 1
    · refine ⟨0, by simp [hp], fun i => ?_⟩
      rw [Nat.testBit_and]
      cases i with
      | zero => have : (a - 1) % 2 = 0 := by omega
                simp [this]
      | succ i =>
        rw [Nat.testBit_add_one, Nat.testBit_add_one, show (a - 1) / 2 = a / 2 by omega]
        simp
    · obtain ⟨k, h1, h2⟩ := ih (a / 2) (by omega) (by omega)
      refine ⟨k + 1, by rw [Nat.testBit_add_one]; exact h1, fun i => ?_⟩
      cases i with
      | zero => rw [Nat.testBit_and]; simp [hp]
      | succ i =>
        have h3 := h2 i
        rw [Nat.testBit_and] at h3 ⊢
        rw [Nat.testBit_add_one, Nat.testBit_add_one, show (a - 1) / 2 = a / 2 - 1 by omega, h3]
        simp
theorem ct_0 {p : Nat → Bool} {n : Nat} (h : ct p n = 0) : ∀ i, i < n → p i = false := by
  induction n with
  | zero => intro i hi; omega
  | succ n ih =>
    rw [ct] at h
    intro i hi
    by_cases e : i = n
    · subst e
      cases hp : p i
      · rfl
      · rw [hp] at h; simp at h
    · exact ih (by omega) i (by omega)
theorem tb_16 {a i : Nat} (h : a < 65536) (hi : 16 ≤ i) : a.testBit i = false := Nat.testBit_lt_two_pow (Nat.lt_of_lt_of_le h (show 2 ^ 16 ≤ 2 ^ i from Nat.pow_le_pow_right (by omega) hi))
theorem pop_0 {a : Nat} (h : a < 65536) (e : pop a = 0) : a = 0 := by
  refine Nat.eq_of_testBit_eq (fun i => ?_)
  rw [Nat.zero_testBit]
  by_cases hi : i < 16
  · exact ct_0 e i hi
  · exact tb_16 h (by omega)
theorem c1_lp : ∀ n a j : Nat, pop a = n → a < 65536 → lp b_X5_count1_4 (nI j, nI a) = some (nI (j + n), nI 0) := by
  intro n
  induction n with
  | zero =>
    intro a j h ha
    obtain rfl := pop_0 ha h
    exact lp_done rfl
  | succ n ih =>
    intro a j h ha
    have h0 : a ≠ 0 := by
      intro e
      subst e
      have : pop 0 = 0 := by decide
      omega
    obtain ⟨k, hk, hb⟩ := low_bit a h0
    have hk16 : k < 16 := by
      refine Nat.lt_of_not_le (fun q => ?_)
      rw [tb_16 ha q] at hk
      cases hk
    have hp : pop (a &&& (a - 1)) + 1 = pop a := ct_rm (p := fun i => a.testBit i) (q := fun i => (a &&& (a - 1)).testBit i) hb hk hk16
    refine lp_next (s' := (nI (j + 1), nI (a &&& (a - 1)))) ?_ ?_
    · unfold b_X5_count1_4
      rw [if_neg (nI_ne0 (by omega) (by omega))]
      obtain ⟨c, rfl⟩ : ∃ c, a = c + 1 := ⟨a - 1, by omega⟩
      rw [nI_pred, b_land, nI_1]
      rfl
    · rw [show j + (n + 1) = j + 1 + n by omega]
      exact ih _ _ (by omega) (Nat.lt_of_le_of_lt Nat.and_le_left ha)
theorem c1_s {a : Nat} (ha : a < 65536) : f_X5_count1 (nI a) = some (nI (pop a)) := by
  unfold f_X5_count1
  refine bnd_s (c1_lp (pop a) a 0 rfl ha) ?_
  rw [Nat.zero_add]
theorem pop_bs {p : Nat → Bool} {n : Nat} (hn : n ≤ 16) : pop (bs p n) = ct p n := by
  have : ∀ j, ct (fun i => (bs p n).testBit i) (n + j) = ct p n := by
    intro j
    induction j with
    | zero => exact ct_cg (fun i hi => by have : i < n := hi
                                          simp [bs_t, this])
    | succ j ih =>
      rw [← Nat.add_assoc, ct, ih, bs_t]
      have : ¬ n + j < n := by omega
      simp [this]
  have h := this (16 - n)
  rw [show n + (16 - n) = 16 by omega] at h
  exact h
theorem bs_16 {p : Nat → Bool} {n : Nat} (hn : n ≤ 16) : bs p n < 65536 := Nat.lt_of_lt_of_le (bs_lt p n) (show 2 ^ n ≤ 2 ^ 16 from Nat.pow_le_pow_right (by omega) hn)
theorem hb_s {a k : Nat} (ha : a < 65536) (hk : k < 32) : f_X4_hasBit (nI a) (nI k) = some (if a.testBit k then 1 else 0) := by
  unfold f_X4_hasBit
  rw [b_is (by omega) hk]
  cases a.testBit k <;> rfl
theorem w_wide (a b : Int32) : a.toInt64 < b.toInt64 ↔ a < b := by
  rw [Int64.lt_iff_toInt_lt, Int32.lt_iff_toInt_lt, Int32.toInt_toInt64, Int32.toInt_toInt64]
theorem wi_32 (a b c : Int32) : f_X5_within a.toInt64 b.toInt64 c.toInt64 = some (if a < b then 0 else if c < a then 0 else 1) := by
  unfold f_X5_within
  by_cases h1 : a < b
  · rw [if_pos ((w_wide a b).mpr h1), if_pos h1]; rfl
  · rw [if_neg (fun q => h1 ((w_wide a b).mp q)), if_neg h1]
    by_cases h2 : c < a
    · rw [if_pos ((w_wide c a).mpr h2), if_pos h2]; rfl
    · rw [if_neg (fun q => h2 ((w_wide c a).mp q)), if_neg h2]; rfl
theorem z_64 : (0 : Int64) = (0 : Int32).toInt64 := by decide
theorem wi_no {p : Int32} {n : Nat} (hn : n < 2 ^ 31) (h : p < 0 ∨ nI n ≤ p) : f_X5_within p.toInt64 0 (nI n - 1).toInt64 = some 0 := by
  rw [z_64, wi_32]
  by_cases h0 : p < 0
  · rw [if_pos h0]
  · rw [if_neg h0, if_pos]
    have h1 : nI n ≤ p := h.elim (fun q => absurd q h0) id
    cases n with
    | zero => rw [nI_0] at h1 ⊢; grind
    | succ n =>
      rw [nI_pred]
      have h2 := nI_lt (a := n) (b := n + 1) (by omega) hn
      grind
theorem wi_yes {n j : Nat} (hn : n < 2 ^ 31) (h : j < n) : f_X5_within (nI j).toInt64 0 (nI n - 1).toInt64 = some 1 := by
  rw [z_64, wi_32, if_neg (nI_pos (by omega)), if_neg]
  cases n with
  | zero => omega
  | succ n =>
    rw [nI_pred]
    exact nI_nlt (by omega) (by omega)
theorem ci_no {I : MI} {t n : Nat} {p : Int32} (e : I t 6 = nI n) (h : p < 0 ∨ nI n ≤ p) : f_X3_isItem t p I = some 0 := by
  unfold f_X3_isItem
  rw [e]
  by_cases h0 : p < 0
  · rw [if_pos h0]; rfl
  · have h1 : ¬ p < nI n := by have : nI n ≤ p := h.elim (fun q => absurd q h0) id
                               grind
    rw [if_neg h0, if_neg h1]; rfl
theorem ci_yes {I : MI} {t n j : Nat} (e : I t 6 = nI n) (hn : n < 2 ^ 31) (h : j < n) : f_X3_isItem t (nI j) I = some 1 := by
  unfold f_X3_isItem
  rw [e, if_neg (nI_pos (by omega)), if_pos (nI_lt h hn)]; rfl
theorem co_no {I : MI} {t n : Nat} {p : Int32} (e : I t 10 = nI n) (h : p < 0 ∨ nI n ≤ p) : f_X3_isOrder t p I = some 0 := by
  unfold f_X3_isOrder
  rw [e]
  by_cases h0 : p < 0
  · rw [if_pos h0]; rfl
  · have h1 : ¬ p < nI n := by have : nI n ≤ p := h.elim (fun q => absurd q h0) id
                               grind
    rw [if_neg h0, if_neg h1]; rfl
theorem co_yes {I : MI} {t n j : Nat} (e : I t 10 = nI n) (hn : n < 2 ^ 31) (h : j < n) : f_X3_isOrder t (nI j) I = some 1 := by
  unfold f_X3_isOrder
  rw [e, if_neg (nI_pos (by omega)), if_pos (nI_lt h hn)]; rfl
theorem mi_no {K : MI} {m n : Nat} {J : MJ} {p : Int32} (e : K (m + 2) 0 = nI n) (hn : n < 2 ^ 31) (h : p < 0 ∨ nI n ≤ p) : f_X5_isItem m p J K = some 0 := by
  unfold f_X5_isItem
  refine bnd_s (rd_k 0 rfl (by omega) (by omega)) ?_
  rw [e]
  exact bnd_s (wi_no hn h) rfl
theorem mi_yes {K : MI} {m n j : Nat} {J : MJ} (e : K (m + 2) 0 = nI n) (hn : n < 2 ^ 31) (h : j < n) : f_X5_isItem m (nI j) J K = some 1 := by
  unfold f_X5_isItem
  refine bnd_s (rd_k 0 rfl (by omega) (by omega)) ?_
  rw [e]
  exact bnd_s (wi_yes hn h) rfl
theorem mo_no {K : MI} {m n : Nat} {J : MJ} {p : Int32} (e : K (m + 3) 0 = nI n) (hn : n < 2 ^ 31) (h : p < 0 ∨ nI n ≤ p) : f_X5_isOrder m p J K = some 0 := by
  unfold f_X5_isOrder
  refine bnd_s (rd_k 0 rfl (by omega) (by omega)) ?_
  rw [e]
  exact bnd_s (wi_no hn h) rfl
theorem mo_yes {K : MI} {m n j : Nat} {J : MJ} (e : K (m + 3) 0 = nI n) (hn : n < 2 ^ 31) (h : j < n) : f_X5_isOrder m (nI j) J K = some 1 := by
  unfold f_X5_isOrder
  refine bnd_s (rd_k 0 rfl (by omega) (by omega)) ?_
  rw [e]
  exact bnd_s (wi_yes hn h) rfl
