/-! Integer.bitCount, byte by byte -/
theorem an_sp {a b M N : Nat} (hb : b < 256) (hN : N < 256) : (256 * a + b) &&& (256 * M + N) = 256 * (a &&& M) + (b &&& N) := by
  refine Nat.eq_of_testBit_eq (fun i => ?_)
  have e := fun (u v : Nat) (hv : v < 256) => Nat.testBit_two_pow_mul_add (i := 8) u (b := v) hv i
  have h1 := e a b hb
  have h2 := e M N hN
  have h3 := e (a &&& M) (b &&& N) (Nat.lt_of_le_of_lt Nat.and_le_left hb)
  rw [show 2 ^ 8 = 256 from rfl] at h1 h2 h3
  rw [Nat.testBit_and, h1, h2, h3]
  by_cases h : i < 8
  · simp only [h, if_true, Nat.testBit_and]
  · simp only [h, if_false, Nat.testBit_and]
theorem us_s {n : Nat} (hn : n < 2 ^ 32) (s : Int32) (k : Nat) (hs : ((s.toUInt32 &&& Int32.toUInt32 31).toBitVec % 32).toNat = k) : ushr (nI n) s = nI (n / 2 ^ k) := pk_ushrN hn s k hs
def s1b (x : Nat) : Nat := x - ((x / 2) &&& 85)
def s2b (x : Nat) : Nat := (x &&& 51) + ((x / 4) &&& 51)
def s3b (x : Nat) : Nat := (x + x / 16) &&& 15
def p8 (x : Nat) : Nat := ct (fun i => x.testBit i) 8
theorem c_1 : ∀ b, b < 256 → ∀ e, e < 2 → ((128 * e + b / 2) &&& 85) = ((b / 2) &&& 85) := by decide +kernel
theorem c_2 : ∀ b, b < 256 → ∀ e, e < 4 → ((64 * e + b / 4) &&& 51) = ((b / 4) &&& 51) := by decide +kernel
theorem c_3 : ∀ b, b < 256 → s1b b < 256 ∧ (b / 2 &&& 85) ≤ b ∧ s2b (s1b b) % 16 ≤ 4 ∧ s2b (s1b b) ≤ 68 ∧ s3b (s2b (s1b b)) = p8 b := by decide +kernel
theorem p8_le (b : Nat) : p8 b ≤ 8 := ct_le _ 8
theorem pop_sp {a b : Nat} (hb : b < 256) : pop (256 * a + b) = p8 b + p8 a := by
  have e := fun i => Nat.testBit_two_pow_mul_add (i := 8) a (b := b) hb i
  rw [show 2 ^ 8 = 256 from rfl] at e
  have h8 : ct (fun i => (256 * a + b).testBit i) 8 = p8 b := ct_cg (fun i hi => by rw [e i, if_pos hi])
  have : ∀ k, k ≤ 8 → ct (fun i => (256 * a + b).testBit i) (8 + k) = p8 b + ct (fun i => a.testBit i) k := by
    intro k
    induction k with
    | zero => intro _; exact h8
    | succ k ih =>
      intro hk
      rw [← Nat.add_assoc, ct, ih (by omega), ct, e, if_neg (by omega), show 8 + k - 8 = k by omega]
      omega
  exact this 8 (Nat.le_refl _)
theorem swr_all {n : Nat} (h : n < 65536) : swr (nI n) = nI (pop n) := by
  obtain ⟨a, b, rfl, ha, hb⟩ : ∃ a b, n = 256 * a + b ∧ a < 256 ∧ b < 256 := ⟨n / 256, n % 256, by omega, by omega, by omega⟩
  obtain ⟨a1, a2, a3, a4, a5⟩ := c_3 a ha
  obtain ⟨b1, b2, b3, b4, b5⟩ := c_3 b hb
  have pa := p8_le a
  have pb := p8_le b
  unfold swr
  dsimp only
  have e1 : nI (256 * a + b) - (ushr (nI (256 * a + b)) 1 &&& 1431655765) = nI (256 * s1b a + s1b b) := by
    rw [us_s (by omega) 1 1 (by decide), show (1431655765 : Int32) = nI 1431655765 from rfl, b_land]
    have : (256 * a + b) / 2 ^ 1 &&& 1431655765 = 256 * ((a / 2) &&& 85) + ((b / 2) &&& 85) := by
      rw [show (256 * a + b) / 2 ^ 1 = 256 * (a / 2) + (128 * (a % 2) + b / 2) by omega, show 1431655765 = 256 * 5592405 + 85 by rfl, an_sp (by omega) (by omega), c_1 b hb _ (by omega)]
      congr 2
      rw [show (5592405 : Nat) = 256 * 21845 + 85 by rfl, show a / 2 = 256 * 0 + a / 2 by omega, an_sp (by omega) (by omega)]
      simp
    rw [this, nI_sub (by omega)]
    congr 1
    unfold s1b
    omega
  rw [e1]
  have e2 : ∀ x, x < 256 → ∀ M, (x &&& (256 * M + 51)) = x &&& 51 := by
    intro x hx M
    have := an_sp (a := 0) (b := x) (M := M) (N := 51) hx (by omega)
    simpa using this
  have e3 : (nI (256 * s1b a + s1b b) &&& 858993459) + (ushr (nI (256 * s1b a + s1b b)) 2 &&& 858993459) = nI (256 * s2b (s1b a) + s2b (s1b b)) := by
    rw [us_s (by omega) 2 2 (by decide), show (858993459 : Int32) = nI 858993459 from rfl, b_land, b_land, nI_add]
    congr 1
    rw [show (256 * s1b a + s1b b) / 2 ^ 2 = 256 * (s1b a / 4) + (64 * (s1b a % 4) + s1b b / 4) by omega, show 858993459 = 256 * 3355443 + 51 by rfl, an_sp b1 (by omega), an_sp (by omega) (by omega), c_2 _ b1 _ (by omega), show (3355443 : Nat) = 256 * 13107 + 51 by rfl, e2 _ a1, e2 _ (by omega)]
    unfold s2b
    omega
  rw [e3]
  obtain ⟨r, hr⟩ : ∃ r, r = s2b (s1b a) := ⟨_, rfl⟩
  obtain ⟨q, hq⟩ : ∃ q, q = s2b (s1b b) := ⟨_, rfl⟩
  rw [← hr] at a3 a4 a5
  rw [← hq] at b3 b4 b5
  rw [← hr, ← hq]
  have e4 : (nI (256 * r + q) + ushr (nI (256 * r + q)) 4) &&& 252645135 = nI (256 * p8 a + p8 b) := by
    rw [us_s (by omega) 4 4 (by decide), show (252645135 : Int32) = nI 252645135 from rfl, nI_add, b_land]
    congr 1
    rw [show 256 * r + q + (256 * r + q) / 2 ^ 4 = 256 * (r + r / 16) + (q + q / 16 + 16 * (r % 16)) by omega, show 252645135 = 256 * 986895 + 15 by rfl, an_sp (by omega) (by omega), ← a5, ← b5]
    have f1 : (r + r / 16) &&& 986895 = (r + r / 16) &&& 15 := by
      have := an_sp (a := 0) (b := r + r / 16) (M := 3855) (N := 15) (by omega) (by omega)
      simpa using this
    have f2 : (q + q / 16 + 16 * (r % 16)) &&& 15 = (q + q / 16) &&& 15 := by
      rw [Nat.and_two_pow_sub_one_eq_mod (q + q / 16 + 16 * (r % 16)) 4, Nat.and_two_pow_sub_one_eq_mod (q + q / 16) 4]
      omega
    rw [f1, f2]
    rfl
  rw [e4, us_s (by omega) 8 8 (by decide), nI_add, us_s (by omega) 16 16 (by decide), nI_add, show (63 : Int32) = nI 63 from rfl, b_land, pop_sp hb]
  congr 1
  have w1 : (256 * p8 a + p8 b) / 2 ^ 8 = p8 a := by omega
  have w2 : (256 * p8 a + p8 b + p8 a) / 2 ^ 16 = 0 := by omega
  rw [Nat.and_two_pow_sub_one_eq_mod _ 6, w1, w2]
  clear a5 b5
  omega
theorem bc_s {n : Nat} (h : n < 65536) : f_J6_bitCount_0f7a4 (nI n) = some (nI (pop n)) := by
  rw [← swr_all h]
  rfl
