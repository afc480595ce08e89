/-! PURE PART: a program of the Option monad comes to an end, and its end meets P -/
def Ok {α : Type} (o : Option α) (P : α → Prop) : Prop := ∃ r, o = some r ∧ P r
theorem Ok.mk {α : Type} {o : Option α} {P : α → Prop} {r : α} (h : o = some r) (hp : P r) : Ok o P := ⟨r, h, hp⟩
theorem Ok.im {α : Type} {o : Option α} {P Q : α → Prop} (h : Ok o P) (k : ∀ r, P r → Q r) : Ok o Q := h.elim fun r hr => ⟨r, hr.1, k r hr.2⟩
theorem ok_some {α : Type} {P : α → Prop} {a : α} (h : P a) : Ok (some a) P := ⟨a, rfl, h⟩
theorem ok_bind {α β : Type} {x : Option α} {f : α → Option β} {P : α → Prop} {Q : β → Prop} (h : Ok x P) (k : ∀ a, P a → Ok (f a) Q) : Ok (x.bind f) Q := by
  obtain ⟨a, rfl, ha⟩ := h
  exact k a ha
theorem ok_bs {α β : Type} {x : Option α} {f : α → Option β} {Q : β → Prop} {a : α} (h : x = some a) (k : Ok (f a) Q) : Ok (x.bind f) Q := by subst h; exact k
theorem bnd_s {α β : Type} {x : Option α} {f : α → Option β} {r : Option β} {a : α} (h : x = some a) (k : f a = r) : x.bind f = r := by subst h; exact k
theorem ok_ite {α : Type} {c : Prop} {dc : Decidable c} {a b : Option α} {Q : α → Prop} (h1 : c → Ok a Q) (h2 : ¬ c → Ok b Q) : Ok (@ite _ c dc a b) Q := by
  by_cases h : c
  · rw [if_pos h]; exact h1 h
  · rw [if_neg h]; exact h2 h
theorem ok_pos {α : Type} {c : Prop} {dc : Decidable c} {a b : Option α} {Q : α → Prop} (hc : c) (h : Ok a Q) : Ok (@ite _ c dc a b) Q := by rw [if_pos hc]; exact h
theorem ok_neg {α : Type} {c : Prop} {dc : Decidable c} {a b : Option α} {Q : α → Prop} (hc : ¬ c) (h : Ok b Q) : Ok (@ite _ c dc a b) Q := by rw [if_neg hc]; exact h
/-- the loop, by a number that falls -/
theorem ok_lp {σ ρ : Type} {b : σ → Option (σ ⊕ ρ)} {Q : ρ → Prop} (P : Nat → σ → Prop) (h : ∀ n s, P n s → ∃ w, b s = some w ∧ Sum.elim (fun s' => ∃ n', n' < n ∧ P n' s') Q w) : ∀ n s, P n s → Ok (lp b s) Q := by
  intro n
  induction n using Nat.strongRecOn with
  | ind n ih =>
    intro s hs
    obtain ⟨w, hw, h2⟩ := h n s hs
    cases w with
    | inl s' =>
      obtain ⟨n', hn, hp⟩ := h2
      obtain ⟨r, hr, hq⟩ := ih n' hn s' hp
      exact ⟨r, lp_next hw hr, hq⟩
    | inr r => exact ⟨r, lp_done hw, h2⟩
/-- the loop that counts k up to n; it may be left -/
theorem ok_up {σ ρ : Type} {b : σ → Option (σ ⊕ ρ)} {Q : ρ → Prop} (n : Nat) (P : Nat → σ → Prop) (hs : ∀ k s, k < n → P k s → Ok (b s) (fun w => Sum.elim (fun s' => P (k + 1) s') Q w)) (hd : ∀ s, P n s → Ok (b s) (fun w => Sum.elim (fun _ => False) Q w)) : ∀ k s, k ≤ n → P k s → Ok (lp b s) Q := by
  intro k s hk hp
  refine ok_lp (b := b) (Q := Q) (fun j s => ∃ k, k ≤ n ∧ j = n - k ∧ P k s) ?_ (n - k) s ⟨k, hk, rfl, hp⟩
  rintro j s ⟨k, hk, rfl, hp⟩
  by_cases h : k < n
  · obtain ⟨w, hw, h2⟩ := hs k s h hp
    refine ⟨w, hw, ?_⟩
    cases w with
    | inl s' => exact ⟨n - (k + 1), by omega, k + 1, h, rfl, h2⟩
    | inr r => exact h2
  · obtain rfl : k = n := by omega
    obtain ⟨w, hw, h2⟩ := hd s hp
    refine ⟨w, hw, ?_⟩
    cases w with
    | inl s' => exact h2.elim
    | inr r => exact h2
/-- the loop whose states are known -/
theorem lp_fs {σ ρ : Type} {b : σ → Option (σ ⊕ ρ)} (s : Nat → σ) {r : ρ} (n : Nat) (h : ∀ k, k < n → b (s k) = some (.inl (s (k + 1)))) (e : b (s n) = some (.inr r)) : lp b (s 0) = some r := lp_seq s n h (lp_done e)
/-! numbers -/
theorem nI_mul (a b : Nat) : nI a * nI b = nI (a * b) := by
  unfold nI
  rw [Int32.ofNat_mul]
theorem nI_sub {a b : Nat} (h : b ≤ a) : nI a - nI b = nI (a - b) := by
  have e : nI a = nI (a - b) + nI b := by rw [nI_add]; congr 1; omega
  rw [e]
  grind
theorem l_10 : (10 : Int32) = nI 10 := rfl
theorem ci_c (o i : Nat) : nI o * 10 + nI i = nI (10 * o + i) := by rw [l_10, nI_mul, nI_add]; congr 1; omega
theorem ci_m (o i : Nat) : 10 * nI o + nI i = nI (10 * o + i) := by rw [l_10, nI_mul, nI_add]
theorem ci_k {K : Int32} {k : Nat} (hK : K = nI k) (o i : Nat) : (K + 10 * nI o) + nI i = nI (k + 10 * o + i) := by rw [l_10, nI_mul, hK, nI_add, nI_add]
theorem ci_a {K : Int32} {k : Nat} (hK : K = nI k) (o : Nat) : K + nI o = nI (k + o) := by rw [hK, nI_add]
theorem rd_k {α : Type} {n : Nat} {f : Nat → α} {i : Int32} (k : Nat) (e : i = nI k) (hk : k < n) (hn : n < 2 ^ 31) : rd n f i = some (f k) := by
  unfold rd
  rw [e, if_neg (nI_in hk hn), nI_clamp (by omega)]
theorem wr_k {α : Type} {n : Nat} {f : Nat → Nat → α} {a : Nat} {i : Int32} {v : α} (k : Nat) (e : i = nI k) (hk : k < n) (hn : n < 2 ^ 31) : wr n f a i v = some (mst f a k v) := by
  unfold wr
  rw [e, if_neg (nI_in hk hn), nI_clamp (by omega)]
theorem ok_rd {α β : Type} {n : Nat} {f : Nat → α} {i : Int32} {g : α → Option β} {Q : β → Prop} (k : Nat) (e : i = nI k) (hk : k < n) (hn : n < 2 ^ 31) (K : Ok (g (f k)) Q) : Ok ((rd n f i).bind g) Q := ok_bs (rd_k k e hk hn) K
theorem ok_wr {α β : Type} {n : Nat} {f : Nat → Nat → α} {a : Nat} {i : Int32} {v : α} {g : (Nat → Nat → α) → Option β} {Q : β → Prop} (k : Nat) (e : i = nI k) (hk : k < n) (hn : n < 2 ^ 31) (K : Ok (g (mst f a k v)) Q) : Ok ((wr n f a i v).bind g) Q := ok_bs (wr_k k e hk hn) K
theorem ok_wf {α β : Type} {f : Nat → Nat → α} {a k : Nat} {v : α} {g : (Nat → Nat → α) → Option β} {Q : β → Prop} (K : Ok (g (mst f a k v)) Q) : Ok ((wf f a k v).bind g) Q := ok_bs rfl K
theorem ok_nm {α β : Type} {x : α} {g : α → Option β} {Q : β → Prop} (K : Ok (g x) Q) : Ok ((nm x).bind g) Q := ok_bs rfl K
theorem ok_gb0 {β : Type} {g : Int32 → Option β} {Q : β → Prop} (K : Ok (g 0) Q) : Ok ((gb 0).bind g) Q := ok_bs rfl K
theorem ok_gb1 {β : Type} {g : Int32 → Option β} {Q : β → Prop} (K : Ok (g 1) Q) : Ok ((gb 1).bind g) Q := ok_bs rfl K
theorem ok_gd {β : Type} {p : Prop} {g : Unit → Option β} {Q : β → Prop} (hp : p) (K : Ok (g ()) Q) : Ok ((gd p).bind g) Q := by
  refine ok_bs ?_ K
  unfold gd
  exact if_pos hp
theorem rd_s {α : Type} {n : Nat} {f : Nat → α} {i : Int32} {v : α} (h : rd n f i = some v) : ∃ k, k < n ∧ i = nI k := by
  unfold rd at h
  split at h
  · cases h
  · rename_i hc
    have h0 : ¬ i < 0 := fun q => hc (Or.inl q)
    obtain ⟨j, hj, rfl⟩ := nI_of h0
    refine ⟨j, ?_, rfl⟩
    rw [nI_clamp hj] at hc
    omega
/-- a row that is one of the memory's, with one place new -/
def pu {α : Type} (f : Nat → α) (k : Nat) (v : α) : Nat → α := fun j => if j = k then v else f j
theorem pu_s {α : Type} {f : Nat → α} {k : Nat} {v : α} : pu f k v k = v := by simp [pu]
theorem pu_n {α : Type} {f : Nat → α} {k j : Nat} {v : α} (h : j ≠ k) : pu f k v j = f j := by simp [pu, h]
theorem ms_r {α : Type} {f : Nat → Nat → α} {a k : Nat} {v : α} : mst f a k v a = pu (f a) k v := by
  funext j
  simp [mst, pu]
theorem ms_o {α : Type} {f : Nat → Nat → α} {a b k : Nat} {v : α} (h : b ≠ a) : mst f a k v b = f b := mst_row f k v h
/-- sums -/
def sm (g : Nat → Nat) (a : Nat) : Nat → Nat
  | 0 => 0
  | n + 1 => sm g a n + g (a + n)
theorem sm_le {g : Nat → Nat} {a n b : Nat} (h : ∀ i, i < n → g (a + i) ≤ b) : sm g a n ≤ n * b := by
  induction n with
  | zero => simp [sm]
  | succ n ih =>
    have := ih (fun i hi => h i (by omega))
    have h2 := h n (by omega)
    rw [sm, Nat.succ_mul]
    omega
theorem sm_eq {g g' : Nat → Nat} {a a' n : Nat} (h : ∀ i, i < n → g (a + i) = g' (a' + i)) : sm g a n = sm g' a' n := by
  induction n with
  | zero => rfl
  | succ n ih => rw [sm, sm, ih (fun i hi => h i (by omega)), h n (by omega)]
theorem sm_mono {g g' : Nat → Nat} {a a' n : Nat} (h : ∀ i, i < n → g (a + i) ≤ g' (a' + i)) : sm g a n ≤ sm g' a' n := by
  induction n with
  | zero => exact Nat.le_refl _
  | succ n ih =>
    have := ih (fun i hi => h i (by omega))
    have h2 := h n (by omega)
    rw [sm, sm]
    omega
theorem sm_lt {g g' : Nat → Nat} {a a' n k : Nat} (h : ∀ i, i < n → g (a + i) ≤ g' (a' + i)) (hk : k < n) (hl : g (a + k) < g' (a' + k)) : sm g a n < sm g' a' n := by
  induction n with
  | zero => omega
  | succ n ih =>
    have h2 := h n (by omega)
    rw [sm, sm]
    by_cases e : k = n
    · subst e
      have := sm_mono (n := k) (g := g) (g' := g') (a := a) (a' := a') (fun i hi => h i (by omega))
      omega
    · have := ih (fun i hi => h i (by omega)) (by omega)
      omega
theorem sm_pu {g : Nat → Nat} {a n c v : Nat} (h1 : a ≤ c) (h2 : c < a + n) : sm (pu g c v) a n + g c = sm g a n + v := by
  induction n with
  | zero => omega
  | succ n ih =>
    rw [sm, sm]
    by_cases e : c = a + n
    · subst e
      rw [pu_s]
      have : sm (pu g (a + n) v) a n = sm g a n := sm_eq (fun i hi => pu_n (by omega))
      omega
    · have := ih (by omega)
      rw [pu_n (show a + n ≠ c from fun q => e q.symm)]
      omega
theorem sm_puo {g : Nat → Nat} {a n c v : Nat} (h : c < a ∨ a + n ≤ c) : sm (pu g c v) a n = sm g a n := sm_eq (fun i hi => pu_n (by omega))
