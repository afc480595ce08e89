/-! sets of small numbers as bits -/
theorem sh_l : ∀ n, n < 32 → ((nI n &&& 31).toBitVec.smod 32).toNat = n := by decide +kernel
theorem b_one {k : Nat} (h : k < 31) : (1 : Int32) <<< (nI k &&& 31) = nI (2 ^ k) := by
  have := pk_shlN (n := 1) (nI k &&& 31) k (sh_l k (by omega)) (by have := Nat.pow_lt_pow_right (a := 2) (by omega) (show k < 32 by omega); omega)
  rw [Nat.one_mul] at this
  exact this
theorem b_shr {a k : Nat} (ha : a < 2 ^ 31) (h : k < 32) : nI a >>> (nI k &&& 31) = nI (a / 2 ^ k) := pk_shrN ha _ k (sh_l k h)
theorem b_is {a k : Nat} (ha : a < 2 ^ 31) (h : k < 32) : (nI a >>> (nI k &&& 31)) &&& 1 = nI (a.testBit k).toNat := by
  rw [b_shr ha h, pk_andN (m := 1) (by have := Nat.div_le_self a (2 ^ k); omega) 1 (by decide), Nat.toNat_testBit]
theorem nI_tb (a : Nat) : (nI a).toBitVec = BitVec.ofNat 32 a := rfl
theorem nI_ib {x : Int32} {a : Nat} (h : x.toBitVec = BitVec.ofNat 32 a) : x = nI a := Int32.toBitVec_inj.mp h
theorem b_lor (a b : Nat) : nI a ||| nI b = nI (a ||| b) := nI_ib (by rw [Int32.toBitVec_or, nI_tb, nI_tb, BitVec.ofNat_or])
theorem b_land (a b : Nat) : nI a &&& nI b = nI (a &&& b) := nI_ib (by rw [Int32.toBitVec_and, nI_tb, nI_tb, BitVec.ofNat_and])
/-- those of a that are not of b -/
def df (a b : Nat) : Nat := a ^^^ (a &&& b)
theorem df_t (a b k : Nat) : (df a b).testBit k = (a.testBit k && !b.testBit k) := by
  unfold df
  rw [Nat.testBit_xor, Nat.testBit_and]
  cases a.testBit k <;> cases b.testBit k <;> rfl
theorem df_le (a b : Nat) : df a b ≤ a := Nat.le_of_testBit (fun i h => by rw [df_t] at h; simp at h; exact h.1)
theorem b_df {a b : Nat} (ha : a < 2 ^ 32) : nI a &&& (nI b ^^^ (-1)) = nI (df a b) := by
  have e : (-1 : Int32) = nI (2 ^ 32 - 1) := by decide
  rw [e, show nI b ^^^ nI (2 ^ 32 - 1) = nI (b ^^^ (2 ^ 32 - 1)) from nI_ib (by rw [Int32.toBitVec_xor, nI_tb, nI_tb, BitVec.ofNat_xor]), b_land]
  congr 1
  refine Nat.eq_of_testBit_eq (fun i => ?_)
  rw [df_t, Nat.testBit_and, Nat.testBit_xor, Nat.testBit_two_pow_sub_one]
  by_cases h : i < 32
  · simp [h]
  · rw [Nat.testBit_lt_two_pow (x := a) (i := i) (Nat.lt_of_lt_of_le ha (Nat.pow_le_pow_right (by omega) (by omega)))]
    rfl
theorem bs_lt (p : Nat → Bool) (n : Nat) : bs p n < 2 ^ n := by
  induction n with
  | zero => simp [bs]
  | succ n ih =>
    rw [bs, Nat.pow_succ]
    split <;> omega
theorem bs_t (p : Nat → Bool) (n k : Nat) : (bs p n).testBit k = (decide (k < n) && p k) := by
  induction n with
  | zero => simp [bs]
  | succ n ih =>
    rw [bs]
    by_cases hp : p n
    · rw [if_pos hp, Nat.add_comm, show 2 ^ n + bs p n = 2 ^ n * 1 + bs p n by omega, Nat.testBit_two_pow_mul_add 1 (bs_lt p n) k]
      by_cases hk : k < n
      · rw [if_pos hk, ih]; simp [hk, Nat.lt_succ_of_lt hk]
      · rw [if_neg hk]
        by_cases e : k = n
        · subst e; simp [hp]
        · rw [Nat.testBit_lt_two_pow (x := 1) (i := k - n) (by have := Nat.pow_le_pow_right (n := 2) (by omega) (show 1 ≤ k - n by omega); omega)]
          have : ¬ k < n + 1 := by omega
          simp [this]
    · rw [if_neg hp, Nat.add_zero, ih]
      by_cases e : k = n
      · subst e
        simp at hp
        simp [hp]
      · have : (k < n + 1) ↔ k < n := by omega
        simp [this]
theorem bs_or (p : Nat → Bool) (k : Nat) : bs p k ||| 2 ^ k = bs p k + 2 ^ k := by
  refine Nat.eq_of_testBit_eq (fun i => ?_)
  have e : bs p k + 2 ^ k = bs (fun j => p j || decide (j = k)) (k + 1) := by
    rw [bs]
    simp only [decide_true, Bool.or_true, if_true]
    congr 1
    have : ∀ n, n ≤ k → bs p n = bs (fun j => p j || decide (j = k)) n := by
      intro n
      induction n with
      | zero => intro _; rfl
      | succ n ih =>
        intro hn
        rw [bs, bs, ih (by omega)]
        have : ¬ n = k := by omega
        simp [this]
    exact this k (Nat.le_refl _)
  rw [e, bs_t, Nat.testBit_or, bs_t, Nat.testBit_two_pow]
  by_cases h : i = k
  · subst h; simp
  · have h1 : (i < k + 1) ↔ i < k := by omega
    have h2 : ¬ k = i := fun q => h q.symm
    simp [h, h1, h2]
theorem bs_ex {a n : Nat} (h : a < 2 ^ n) : a = bs (fun i => a.testBit i) n := by
  refine Nat.eq_of_testBit_eq (fun i => ?_)
  rw [bs_t]
  by_cases hi : i < n
  · simp [hi]
  · rw [Nat.testBit_lt_two_pow (Nat.lt_of_lt_of_le h (Nat.pow_le_pow_right (by omega) (by omega)))]
    simp [hi]
theorem bs_cg {p q : Nat → Bool} {n : Nat} (h : ∀ i, i < n → p i = q i) : bs p n = bs q n := by
  induction n with
  | zero => rfl
  | succ n ih => rw [bs, bs, ih (fun i hi => h i (by omega)), h n (by omega)]
/-- how many -/
def ct (p : Nat → Bool) : Nat → Nat
  | 0 => 0
  | n + 1 => ct p n + (p n).toNat
theorem ct_le (p : Nat → Bool) (n : Nat) : ct p n ≤ n := by
  induction n with
  | zero => simp [ct]
  | succ n ih => rw [ct]; cases p n <;> simp <;> omega
theorem ct_cg {p q : Nat → Bool} {n : Nat} (h : ∀ i, i < n → p i = q i) : ct p n = ct q n := by
  induction n with
  | zero => rfl
  | succ n ih => rw [ct, ct, ih (fun i hi => h i (by omega)), h n (by omega)]
def pop (a : Nat) : Nat := ct (fun i => a.testBit i) 16
/-- the face of Integer.bitCount -/
def swr (x : Int32) : Int32 :=
  let y := ((x - ((ushr x 1) &&& 1431655765)) &&& 858993459) + ((ushr (x - ((ushr x 1) &&& 1431655765)) 2) &&& 858993459)
  let w := ((y + (ushr y 4)) &&& 252645135) + (ushr ((y + (ushr y 4)) &&& 252645135) 8)
  (w + (ushr w 16)) &&& 63
