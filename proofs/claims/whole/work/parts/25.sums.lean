/-! sums and sets that both sides count -/
theorem it_p {α : Type} {c : Prop} {dc : Decidable c} {a b r : α} (hc : c) (k : a = r) : @ite α c dc a b = r := (if_pos hc).trans k
theorem it_n {α : Type} {c : Prop} {dc : Decidable c} {a b r : α} (hc : ¬ c) (k : b = r) : @ite α c dc a b = r := (if_neg hc).trans k
/-- the sum over orders of one item's cells -/
def si (g : Nat → Nat) (i : Nat) : Nat → Nat
  | 0 => 0
  | n + 1 => si g i n + g (10 * n + i)
def sa (g : Nat → Nat) : Nat → Nat
  | 0 => 0
  | n + 1 => sa g n + sm g (10 * n) 10
theorem si_z {g : Nat → Nat} {i n : Nat} (h : ∀ o, n ≤ o → o < 16 → g (10 * o + i) = 0) : ∀ k, n + k ≤ 16 → si g i (n + k) = si g i n := by
  intro k
  induction k with
  | zero => intro _; rfl
  | succ k ih => intro hk; rw [← Nat.add_assoc, si, ih (by omega), h _ (by omega) (by omega)]; rfl
theorem sm_z {g : Nat → Nat} {a n : Nat} (h : ∀ i, i < n → g (a + i) = 0) : sm g a n = 0 := by
  induction n with
  | zero => rfl
  | succ n ih => rw [sm, ih (fun i hi => h i (by omega)), h n (by omega)]
theorem sa_z {g : Nat → Nat} {n : Nat} (h : ∀ o i, n ≤ o → o < 16 → i < 10 → g (10 * o + i) = 0) : ∀ k, n + k ≤ 16 → sa g (n + k) = sa g n := by
  intro k
  induction k with
  | zero => intro _; rfl
  | succ k ih => intro hk; rw [← Nat.add_assoc, sa, ih (by omega), sm_z (fun i hi => h _ i (by omega) (by omega) hi)]; rfl
theorem so_s {I : MI} {a o : Nat} {g : Nat → Nat} (h : ∀ c, c < 160 → I a c = nI (g c)) (ho : o < 16) : f_X4_sumOfOrder a 160 (nI o) I = some (nI (sm g (10 * o) 10)) := by
  unfold f_X4_sumOfOrder
  refine bnd_s (lp_fs (fun k => (nI (sm g (10 * o) k), nI k)) 10 (r := (nI (sm g (10 * o) 10), nI 10)) (fun k hk => ?_) ?_) rfl
  · refine it_p (nI_lt (b := 10) hk (by omega)) ?_
    refine bnd_s rfl ?_
    refine bnd_s (rd_k (10 * o + k) (ci_c o k) (by omega) (by omega)) ?_
    dsimp only
    rw [h _ (by omega), nI_add, nI_1]
    rfl
  · exact it_n (nI_nlt (a := 10) (b := 10) (by omega) (by omega)) rfl
theorem ms_s {K : MI} {m o k : Nat} {J : MJ} {g : Nat → Nat} {c : Int32} (hc : c = nI k) (h : ∀ c, c < 160 → K (m + 13) (k + c) = nI (g c)) (hk : k ≤ 170) (ho : o < 16) : f_X5_sumOf m c (nI o) J K = some (nI (sm g (10 * o) 10)) := by
  unfold f_X5_sumOf
  refine bnd_s (lp_fs (fun k => (nI (sm g (10 * o) k), nI k)) 10 (r := (nI (sm g (10 * o) 10), nI 10)) (fun j hj => ?_) ?_) rfl
  · refine it_p (nI_lt (b := 10) hj (by omega)) ?_
    refine bnd_s (rd_k (k + 10 * o + j) (ci_k hc o j) (by omega) (by omega)) ?_
    dsimp only
    rw [Nat.add_assoc k, h _ (by omega), nI_add, nI_1]
    rfl
  · exact it_n (nI_nlt (a := 10) (b := 10) (by omega) (by omega)) rfl
theorem mn_s {K : MI} {m o : Nat} {J : MJ} {g : Nat → Nat} (h : ∀ c, c < 160 → K (m + 12) c = nI (g c)) (ho : o < 16) : f_X5_needOf m (nI o) J K = some (nI (sm g (10 * o) 10)) := by
  unfold f_X5_needOf
  refine bnd_s (lp_fs (fun k => (nI (sm g (10 * o) k), nI k)) 10 (r := (nI (sm g (10 * o) 10), nI 10)) (fun j hj => ?_) ?_) rfl
  · refine it_p (nI_lt (b := 10) hj (by omega)) ?_
    refine bnd_s (rd_k (10 * o + j) (ci_m o j) (by omega) (by omega)) ?_
    dsimp only
    rw [h _ (by omega), nI_add, nI_1]
    rfl
  · exact it_n (nI_nlt (a := 10) (b := 10) (by omega) (by omega)) rfl
theorem li_s {I : MI} {f i : Nat} {g : Nat → Nat} (h : ∀ c, c < 160 → I (f + 6) c = nI (g c)) (hi : i < 10) : f_X0_lateOfItem f (nI i) I = some (nI (si g i 16)) := by
  unfold f_X0_lateOfItem
  refine bnd_s (lp_fs (fun k => (nI (si g i k), nI k)) 16 (r := (nI (si g i 16), nI 16)) (fun k hk => ?_) ?_) rfl
  · refine it_p (nI_lt (b := 16) hk (by omega)) ?_
    refine bnd_s rfl ?_
    refine bnd_s (rd_k (10 * k + i) (ci_c k i) (by omega) (by omega)) ?_
    dsimp only
    rw [h _ (by omega), nI_add, nI_1]
    rfl
  · exact it_n (nI_nlt (a := 16) (b := 16) (by omega) (by omega)) rfl
theorem ml_s {K : MI} {m i n : Nat} {J : MJ} {g : Nat → Nat} (hn : K (m + 3) 0 = nI n) (h16 : n ≤ 16) (h : ∀ c, c < 160 → K (m + 13) (170 + c) = nI (g c)) (hi : i < 10) : f_X5_lateOf m (nI i) J K = some (nI (si g i n)) := by
  unfold f_X5_lateOf
  refine bnd_s (lp_fs (fun k => (nI (si g i k), nI k)) n (r := (nI (si g i n), nI n)) (fun k hk => ?_) ?_) rfl
  · refine bnd_s (rd_k 0 rfl (by omega) (by omega)) ?_
    rw [hn]
    refine it_p (nI_lt hk (by omega)) ?_
    refine bnd_s (rd_k (170 + 10 * k + i) (ci_k rfl k i) (by omega) (by omega)) ?_
    dsimp only
    rw [Nat.add_assoc 170, h _ (by omega), nI_add, nI_1]
    rfl
  · refine bnd_s (rd_k 0 rfl (by omega) (by omega)) ?_
    rw [hn]
    exact it_n (nI_nlt (Nat.le_refl _) (by omega)) rfl
theorem la_s {I : MI} {f : Nat} {g : Nat → Nat} (h : ∀ c, c < 160 → I (f + 6) c = nI (g c)) : f_X0_lateOfAll f I = some (nI (sa g 16)) := by
  unfold f_X0_lateOfAll
  refine bnd_s (lp_fs (fun k => (nI (sa g k), nI k)) 16 (r := (nI (sa g 16), nI 16)) (fun k hk => ?_) ?_) rfl
  · refine it_p (nI_lt (b := 16) hk (by omega)) ?_
    refine bnd_s (so_s h hk) ?_
    dsimp only
    rw [nI_add, nI_1]
    rfl
  · exact it_n (nI_nlt (a := 16) (b := 16) (by omega) (by omega)) rfl
theorem ma_s {K : MI} {m n : Nat} {J : MJ} {g : Nat → Nat} (hn : K (m + 3) 0 = nI n) (h16 : n ≤ 16) (h : ∀ c, c < 160 → K (m + 13) (170 + c) = nI (g c)) : f_X5_allLate m J K = some (nI (sa g n)) := by
  unfold f_X5_allLate
  refine bnd_s (lp_fs (fun k => (nI (sa g k), nI k)) n (r := (nI (sa g n), nI n)) (fun k hk => ?_) ?_) rfl
  · refine bnd_s (rd_k 0 rfl (by omega) (by omega)) ?_
    rw [hn]
    refine it_p (nI_lt hk (by omega)) ?_
    refine bnd_s (ms_s (k := 170) rfl h (by omega) (by omega)) ?_
    dsimp only
    rw [nI_add, nI_1]
    rfl
  · refine bnd_s (rd_k 0 rfl (by omega) (by omega)) ?_
    rw [hn]
    exact it_n (nI_nlt (Nat.le_refl _) (by omega)) rfl
theorem bs_step {p : Nat → Bool} {k : Nat} (hk : k < 31) : nI (bs p k) ||| (if p k then (1 : Int32) <<< (nI k &&& 31) else 0) = nI (bs p (k + 1)) := by
  rw [bs]
  cases p k
  · simp only [Bool.false_eq_true, if_false, Nat.add_zero]
    exact (b_lor _ 0).trans (by rw [Nat.or_zero])
  · simp only [if_true]
    rw [b_one hk, b_lor, bs_or]
/-- those that wait -/
def wts (T : Tx) (A : Fl) : Nat := bs (fun o => decide (flW A o = 0)) (tiO T)
theorem wc_s {I : MI} {f t ni : Nat} {T : Tx} {A : Fl} (hT : CT I t T) (hA : CF ni I f A) (hg : tiO T ≤ 16) (hw : ∀ o, o < 16 → flW A o ≤ 4) : f_X0_waiting f t I = some (nI (wts T A)) := by
  unfold f_X0_waiting
  refine bnd_s (lp_fs (fun k => (nI (bs (fun o => decide (flW A o = 0)) k), nI k)) (tiO T) (r := (nI (wts T A), nI (tiO T))) (fun k hk => ?_) ?_) rfl
  · refine it_p (by rw [hT.1.2.1]; exact nI_lt hk (by omega)) ?_
    refine bnd_s (rd_k k rfl (by omega) (by omega)) ?_
    rw [hA.2.1 k (by omega)]
    have e := bs_step (p := fun o => decide (flW A o = 0)) (k := k) (by omega)
    by_cases h : flW A k = 0
    · refine bnd_s (it_p (by rw [h]; rfl) rfl) ?_
      dsimp only
      rw [if_pos (by simpa using h)] at e
      rw [e, nI_1]
    · refine bnd_s (it_n (nI_ne0 (by omega) (by have := hw k (by omega); omega)) rfl) ?_
      dsimp only
      rw [if_neg (by simpa using h)] at e
      rw [← e, nI_1]
      congr 3
      grind
  · refine it_n (by rw [hT.1.2.1]; exact nI_nlt (Nat.le_refl _) (by omega)) rfl
theorem wm_s {K : MI} {m ni : Nat} {J : MJ} {T : Tx} {A : Fl} (hT : MT K m T) (hA : MF ni (K (m + 13)) A) (hg : tiO T ≤ 16) (hw : ∀ o, o < 16 → flW A o ≤ 4) : f_X5_waiting m J K = some (nI (wts T A)) := by
  unfold f_X5_waiting
  refine bnd_s (lp_fs (fun k => (nI (bs (fun o => decide (flW A o = 0)) k), nI k)) (tiO T) (r := (nI (wts T A), nI (tiO T))) (fun k hk => ?_) ?_) rfl
  · refine bnd_s (rd_k 0 rfl (by omega) (by omega)) ?_
    rw [hT.1.2.1]
    refine it_p (nI_lt hk (by omega)) ?_
    refine bnd_s (rd_k (330 + k) (ci_a rfl k) (by omega) (by omega)) ?_
    rw [hA.2.1 k (by omega)]
    have e := bs_step (p := fun o => decide (flW A o = 0)) (k := k) (by omega)
    by_cases h : flW A k = 0
    · refine bnd_s (it_p (by rw [h]; rfl) rfl) ?_
      dsimp only
      rw [if_pos (by simpa using h)] at e
      rw [e, nI_1]
    · refine bnd_s (it_n (nI_ne0 (by omega) (by have := hw k (by omega); omega)) rfl) ?_
      dsimp only
      rw [if_neg (by simpa using h)] at e
      rw [e, nI_1]
  · refine bnd_s (rd_k 0 rfl (by omega) (by omega)) ?_
    rw [hT.1.2.1]
    refine it_n (nI_nlt (Nat.le_refl _) (by omega)) rfl
/-- a number less one, as holes and orders stand in rows -/
theorem m1_z : nI 0 - 1 = -1 := by decide
theorem m1_p {n : Nat} (h : n ≠ 0) : nI n - 1 = nI (n - 1) := by
  obtain ⟨k, rfl⟩ : ∃ k, n = k + 1 := ⟨n - 1, by omega⟩
  exact nI_pred k
theorem m1_e {n : Nat} (hn : n < 2 ^ 31) : nI n - 1 = -1 ↔ n = 0 := by
  constructor
  · intro h
    refine Classical.byContradiction (fun q => ?_)
    rw [m1_p q] at h
    have := nI_pos (n := n - 1) (by omega)
    rw [h] at this
    exact this (by decide)
  · rintro rfl; exact m1_z
theorem m1_l {n : Nat} (hn : n < 2 ^ 31) : nI n - 1 < 0 ↔ n = 0 := by
  constructor
  · intro h
    refine Classical.byContradiction (fun q => ?_)
    rw [m1_p q] at h
    exact nI_pos (n := n - 1) (by omega) h
  · rintro rfl; rw [m1_z]; decide
def fre (A : Fl) (h : Nat) : Bool := decide (flO A h = 0)
theorem fc_s {I : MI} {f t ni : Nat} {T : Tx} {A : Fl} (hT : CT I t T) (hA : CF ni I f A) (hg : tiH T ≤ 8) (hw : ∀ h, h < 8 → flO A h ≤ 16) : f_X0_freeHoles f t I = some (nI (ct (fre A) (tiH T))) := by
  unfold f_X0_freeHoles
  refine bnd_s (lp_fs (fun k => (nI (ct (fre A) k), nI k)) (tiH T) (r := (nI (ct (fre A) (tiH T)), nI (tiH T))) (fun k hk => ?_) ?_) rfl
  · refine it_p (by rw [hT.1.2.2.1]; exact nI_lt hk (by omega)) ?_
    refine bnd_s (rd_k k rfl (by omega) (by omega)) ?_
    have h8 := hw k (by omega)
    rw [hA.2.2.2.1 k (by omega)]
    dsimp only
    rw [ct]
    by_cases h : flO A k = 0
    · refine bnd_s (it_p ((m1_e (by omega)).mpr h) rfl) ?_
      rw [nI_1, nI_1, show fre A k = true from by simpa [fre] using h]
      rfl
    · refine bnd_s (it_n (fun q => h ((m1_e (by omega)).mp q)) rfl) ?_
      rw [nI_1, show fre A k = false from by simpa [fre] using h]
      rfl
  · refine it_n (by rw [hT.1.2.2.1]; exact nI_nlt (Nat.le_refl _) (by omega)) rfl
theorem fm_s {K : MI} {m ni : Nat} {J : MJ} {T : Tx} {A : Fl} (hT : MT K m T) (hA : MF ni (K (m + 13)) A) (hg : tiH T ≤ 8) (hw : ∀ h, h < 8 → flO A h ≤ 16) : f_X5_freeHoles m J K = some (nI (ct (fre A) (tiH T))) := by
  unfold f_X5_freeHoles
  refine bnd_s (lp_fs (fun k => (nI (ct (fre A) k), nI k)) (tiH T) (r := (nI (ct (fre A) (tiH T)), nI (tiH T))) (fun k hk => ?_) ?_) rfl
  · refine bnd_s (rd_k 0 rfl (by omega) (by omega)) ?_
    rw [hT.1.2.2.1]
    refine it_p (nI_lt hk (by omega)) ?_
    refine bnd_s (rd_k (362 + k) (ci_a rfl k) (by omega) (by omega)) ?_
    have h8 := hw k (by omega)
    rw [hA.2.2.2.1 k (by omega)]
    dsimp only
    rw [ct]
    by_cases h : flO A k = 0
    · refine bnd_s (it_p ((m1_l (by omega)).mpr h) rfl) ?_
      rw [nI_1, nI_1, show fre A k = true from by simpa [fre] using h]
      rfl
    · refine bnd_s (it_n (fun q => h ((m1_l (by omega)).mp q)) rfl) ?_
      rw [nI_1, show fre A k = false from by simpa [fre] using h, show nI (ct (fre A) k) + 0 = nI (ct (fre A) k) from nI_add _ 0]
      rfl
  · refine bnd_s (rd_k 0 rfl (by omega) (by omega)) ?_
    rw [hT.1.2.2.1]
    refine it_n (nI_nlt (Nat.le_refl _) (by omega)) rfl
