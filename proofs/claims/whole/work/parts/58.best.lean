/-! needs; picks by number; the least needs by sets of picks -/
theorem rng_map {l : List Nat} : (List.range l.length).map (fun k => l.getD k 0) = l := by
  refine List.ext_getElem? (fun k => ?_)
  rw [List.getElem?_map]
  by_cases h : k < l.length
  · rw [List.getElem?_range h]
    obtain ⟨c, hc⟩ := ls_get h
    rw [hc]
    show some (l.getD k 0) = some c
    rw [List.getD_eq_getElem?_getD, hc]
    rfl
  · rw [List.getElem?_eq_none (by rw [List.length_range]; omega), List.getElem?_eq_none (by omega)]
    rfl
theorem case_19 {x L : Nat} {xs : Nat → Int32} : CaseOk (Inv x) L (fun t u i z J I => f_Lc_19 x t u (x + 46) L xs i z J I) := by
  rintro t u z J I k ⟨D, hg, hz, hc, hm⟩ hk
  obtain ⟨l, I1, K1, a1, a2, a3, a4, a5, a6, a7, a8, a9, a10⟩ := both_a J hg hz hc hm
  have hI := hg.1.1
  have hlen := a1.len
  have hl10 : ∀ i, i ∈ l → i < 10 := fun i hi => by have := ((a1.2 i).mp hi).1; omega
  have h1 : Ok (lp (b_X5_needs_17 (x + 46)) (0, K1)) (fun s => (∀ j, j < l.length → s.2 (x + 46 + 21) j = nI j) ∧ ∀ a, a ≠ x + 46 + 21 → s.2 a = K1 a) := by
    refine ok_up l.length (fun k s => ∃ K', s = (nI k, K') ∧ (∀ j, j < k → K' (x + 46 + 21) j = nI j) ∧ ∀ a, a ≠ x + 46 + 21 → K' a = K1 a) (fun k s hk hs => ?_) (fun s hs => ?_) 0 _ (by omega) ⟨K1, rfl, fun j hj => by omega, fun _ _ => rfl⟩
    · obtain ⟨K', rfl, q1, q2⟩ := hs
      refine ok_pos (by dsimp only; rw [q2 _ (by omega), a8.1]; exact nI_lt hk (by omega)) (ok_wr k rfl (by omega) (by omega) (ok_some ⟨_, by dsimp only; rw [nI_1], fun j hj => ?_, fun a ha => ?_⟩))
      · rw [ms_r]
        by_cases e : j = k
        · rw [e, pu_s]
        · rw [pu_n e]; exact q1 j (by omega)
      · rw [mst_row _ _ _ ha]; exact q2 a ha
    · obtain ⟨K', rfl, q1, q2⟩ := hs
      exact ok_neg (by dsimp only; rw [q2 _ (by omega), a8.1]; exact nI_nlt (Nat.le_refl _) (by omega)) (ok_some ⟨q1, q2⟩)
  obtain ⟨⟨s1, K2⟩, e1, b1, b2⟩ := h1
  dsimp only at b1 b2
  obtain ⟨⟨v, K3⟩, e2, c1, c2⟩ := nb_m (J := J) (K := K2) (m := x + 46) (A := D.2.1) (w := wW D) (l := l) (rl := List.range l.length) hg.1 (wW_16 hg) hl10 (by omega) List.length_range (fun j hj => List.mem_range.mp hj) (a10.1.fr (fun r hr => b2 _ (by omega))) (by unfold MPk; rw [b2 _ (by omega), b2 _ (by omega), b2 _ (by omega)]; exact a8) (fun j c hj => by
    have hjl := ls_lt hj
    rw [List.length_range] at hjl
    rw [List.getElem?_range hjl] at hj
    rw [Nat.zero_add, ← Option.some.inj hj]
    exact b1 j hjl) (by rw [rng_map]; exact pw_nd a1.1)
  dsimp only at c1 c2
  rw [rng_map] at c1
  rw [c1] at e2
  refine ⟨z, J, K3, t, u, ?_, Inv.pl hg hz hc hm a4 (a9.tr ⟨fun a ha => by rw [c2 a (by omega), b2 a (by omega)], fun k h1 h2 => by rw [c2 _ (by omega), b2 _ (by omega)]⟩)⟩
  show f_Lc_19 x t u (x + 46) L xs (nI (6 * k)) z J I = _
  unfold f_Lc_19 f_X4_needs f_X5_needs
  exact bnd_s (bnd_s a2 (bnd_s (na_c hg.1 a5 a3 (by omega) hl10) rfl)) (bnd_s (bnd_s rfl (bnd_s (nw_a hg a6) (bnd_s a7 (bnd_s e1 (bnd_s e2 rfl))))) (it_p rfl rfl))
/-- the picks' items by number -/
theorem sn_c {I : MI} {p : Nat} {l : List Nat} (hll : l.length ≤ 10) (hl10 : ∀ i, i ∈ l → i < 10) (hnd : l.Nodup) (h1 : I p 1 = nI l.length) (h2 : lsr (I (p + 1)) 0 l) : Ok (f_X1_sortByNumber p I) (fun I' => ∃ b, b.length = l.length ∧ b.Pairwise (plt id) ∧ (∀ i, i ∈ b ↔ i ∈ l) ∧ lsr (I' (p + 6)) 0 b ∧ ∀ a, a ≠ p + 6 → I' a = I a) := by
  unfold f_X1_sortByNumber
  refine ok_bind (P := fun s : Int32 × MI => ∃ b, b.length = l.length ∧ b.Pairwise (plt id) ∧ (∀ i, i ∈ b ↔ i ∈ l) ∧ lsr (s.2 (p + 6)) 0 b ∧ ∀ a, a ≠ p + 6 → s.2 a = I a) (ok_up l.length (fun j s => ∃ b I', s = (nI j, I') ∧ b.length = j ∧ b.Pairwise (plt id) ∧ (∀ i, i ∈ b ↔ i ∈ l.take j) ∧ lsr (I' (p + 6)) 0 b ∧ ∀ a, a ≠ p + 6 → I' a = I a) (fun j s hj hs => ?_) (fun s hs => ?_) 0 _ (by omega) ⟨[], I, rfl, rfl, List.Pairwise.nil, fun i => by simp, fun k c hk => by simp at hk, fun _ _ => rfl⟩) (fun s hs => ok_some hs)
  · obtain ⟨b, I', rfl, q1, q2, q3, q4, q5⟩ := hs
    obtain ⟨x, hx⟩ := ls_get hj
    have hx10 := hl10 x (List.mem_of_getElem? hx)
    have fx := h2 j x hx
    rw [Nat.zero_add] at fx
    have hxb : x ∉ b := by
      intro hm
      rw [q3] at hm
      obtain ⟨k, hk⟩ := List.getElem?_of_mem hm
      have hkl := ls_lt hk
      rw [List.length_take] at hkl
      rw [List.getElem?_take_of_lt (by omega)] at hk
      have hki := List.getElem?_eq_some_iff.mp hk
      have hji := List.getElem?_eq_some_iff.mp hx
      have := List.pairwise_iff_getElem.mp hnd k j hki.1 hji.1 (by omega)
      exact this (hki.2.trans hji.2.symm)
    have hb10 : ∀ a, a ∈ b → a < 10 := fun a ha => hl10 a (List.mem_of_mem_take ((q3 a).mp ha))
    refine ok_pos (by dsimp only; rw [q5 _ (by omega), h1]; exact nI_lt hj (by omega)) ?_
    refine ok_bind (P := fun s : Int32 × MI => ∃ n, n ≤ b.length ∧ s.1 = nI n ∧ (∀ k c, k < n → b[k]? = some c → s.2 (p + 6) k = nI c) ∧ (∀ k c, n ≤ k → b[k]? = some c → s.2 (p + 6) (k + 1) = nI c ∧ x < c) ∧ (∀ a, a ≠ p + 6 → s.2 a = I a) ∧ (n = 0 ∨ ∃ c, b[n - 1]? = some c ∧ c ≤ x)) (ok_lp (fun n s => n ≤ b.length ∧ s.1 = nI n ∧ (∀ k c, k < n → b[k]? = some c → s.2 (p + 6) k = nI c) ∧ (∀ k c, n ≤ k → b[k]? = some c → s.2 (p + 6) (k + 1) = nI c ∧ x < c) ∧ (∀ a, a ≠ p + 6 → s.2 a = I a)) (fun n s hs => ?_) b.length (nI j, I') ⟨Nat.le_refl _, by rw [q1], fun k c hk hc => ?_, fun k c hk hc => ?_, q5⟩) (fun s hs => ?_)
    · obtain ⟨s1, I2⟩ := s
      obtain ⟨hn, rfl, i1, i2, i3⟩ := hs
      dsimp only at hn i1 i2 i3
      show Ok (b_X1_sortByNumber_12 p (nI j) (nI n, I2)) _
      by_cases hn0 : n = 0
      · subst hn0
        exact ok_neg (by show ¬ (0 : Int32) < 0; decide) (ok_some ⟨0, Nat.zero_le _, rfl, i1, i2, i3, Or.inl rfl⟩)
      · obtain ⟨c, hc⟩ := ls_get (l := b) (j := n - 1) (by omega)
        have hc10 := hb10 c (List.mem_of_getElem? hc)
        have hm : nI n - 1 = nI (n - 1) := m1_p hn0
        have e1 := i1 (n - 1) c (by omega) hc
        refine ok_pos ((nI_p0 (by omega)).mpr (by omega)) (ok_bs (rd_v (n - 1) hm (by omega) (by omega) e1) (ok_bs (rd_v (v := nI x) j rfl (by omega) (by omega) (by dsimp only; rw [i3 _ (by omega)]; exact fx)) ?_))
        by_cases hlt' : x < c
        · refine ok_pos (nI_lt hlt' (by omega)) (ok_bs (rd_v (n - 1) hm (by omega) (by omega) e1) (ok_wr n rfl (by omega) (by omega) (ok_some ⟨n - 1, by omega, by omega, ?_, fun k d hk hd' => ?_, fun k d hk hd' => ?_, fun a ha => ?_⟩)))
          · show nI n + (-1) = nI (n - 1)
            obtain ⟨r, rfl⟩ : ∃ r, n = r + 1 := ⟨n - 1, by omega⟩
            exact pk_m1 r
          · dsimp only
            rw [mst_ne _ _ (Or.inr (by omega))]
            exact i1 k d (by omega) hd'
          · dsimp only
            by_cases e : k = n - 1
            · rw [e] at hd'
              rw [hd'] at hc
              obtain rfl := Option.some.inj hc
              rw [show k + 1 = n by omega]
              exact ⟨mst_self _ _ _ _, hlt'⟩
            · obtain ⟨f1, f3⟩ := i2 k d (by omega) hd'
              exact ⟨by rw [mst_ne _ _ (Or.inr (by omega))]; exact f1, f3⟩
          · dsimp only
            rw [mst_row _ _ _ ha]
            exact i3 a ha
        · exact ok_neg (nI_nlt (by omega) (by omega)) (ok_some ⟨n, hn, rfl, i1, i2, i3, Or.inr ⟨c, hc, by omega⟩⟩)
    · have := q4 k c hc
      rw [Nat.zero_add] at this
      exact this
    · have := ls_lt hc
      omega
    · obtain ⟨s1, I2⟩ := s
      obtain ⟨n, hn, hs1, i1, i2, i3, i4⟩ := hs
      dsimp only at hs1 i1 i2 i3
      subst hs1
      obtain ⟨j1, j2, j3⟩ := ins_pw (f := id) (x := x) q2 hn (fun k c hk hc => (i2 k c hk hc).2) i4 (fun a ha he => absurd (show a = x from he) (fun q => hxb (q ▸ ha)))
      refine ok_bs (rd_v (v := nI x) j rfl (by omega) (by omega) (by dsimp only; rw [i3 _ (by omega)]; exact fx)) (ok_wr n rfl (by omega) (by omega) (ok_some ⟨b.take n ++ x :: b.drop n, _, by dsimp only; rw [nI_1], by omega, j1, fun i => ?_, fun k c hk => ?_, fun a ha => ?_⟩))
      · rw [j2, q3, List.take_succ, hx, List.mem_append]
        simp
      · rw [Nat.zero_add, ms_r]
        rcases ins_get hn hk with ⟨w1, w2⟩ | ⟨w1, w2⟩ | ⟨w1, w2⟩
        · rw [pu_n (by omega)]
          exact i1 k c w1 w2
        · rw [w1, w2, pu_s]
        · rw [pu_n (by omega)]
          have := (i2 (k - 1) c (by omega) w2).1
          rw [show k - 1 + 1 = k by omega] at this
          exact this
      · rw [mst_row _ _ _ ha]
        exact i3 a ha
  · obtain ⟨b, I', rfl, q1, q2, q3, q4, q5⟩ := hs
    refine ok_neg (by dsimp only; rw [q5 _ (by omega), h1]; exact nI_nlt (Nat.le_refl _) (by omega)) (ok_some ⟨b, q1, q2, fun i => ?_, q4, q5⟩)
    rw [q3, List.take_length]
/-! sets of picks (by their places in b) -/
def ims (b : List Nat) (S : Nat) : Nat → Nat
  | 0 => 0
  | k + 1 => if S.testBit k then ims b S k ||| 2 ^ (b.getD k 0) else ims b S k
def mnl (f : Nat → Nat) (P : Nat → Bool) (d : Nat) : Nat → Nat
  | 0 => d
  | n + 1 => if P n then min (mnl f P d n) (f n) else mnl f P d n
def uc (p S : Nat) : Nat := ct (fun i => !S.testBit i) p
def pkk (T : Tx) (A : Fl) (w : Nat) (b : List Nat) (S i : Nat) : Nat := mxE T A w (ims b S b.length) (b.getD i 0) (tiO T)
def lst (T : Tx) (A : Fl) (w : Nat) (b : List Nat) : Nat → Nat → Nat
  | 0, _ => 0
  | k + 1, S => mnl (fun i => max (pkk T A w b S i) (lst T A w b k (S ||| 2 ^ i))) (fun i => !S.testBit i) (b.length + 16) b.length
def vl (T : Tx) (A : Fl) (w : Nat) (b : List Nat) (k S i : Nat) : Nat := max (pkk T A w b S i) (lst T A w b k (S ||| 2 ^ i))
def gr (T : Tx) (A : Fl) (w : Nat) (b : List Nat) (m : Nat) : Nat → Nat → List Nat
  | 0, _ => []
  | k + 1, S => nE (fun i => !S.testBit i && decide (vl T A w b k S i ≤ m)) b.length 0 :: gr T A w b m k (S ||| 2 ^ nE (fun i => !S.testBit i && decide (vl T A w b k S i ≤ m)) b.length 0)
theorem mnl_le {f : Nat → Nat} {P : Nat → Bool} {d : Nat} : ∀ n, mnl f P d n ≤ d ∧ (∀ i, i < n → P i = true → mnl f P d n ≤ f i) ∧ (mnl f P d n = d ∨ ∃ i, i < n ∧ P i = true ∧ mnl f P d n = f i) := by
  intro n
  induction n with
  | zero => exact ⟨Nat.le_refl _, fun i hi => by omega, Or.inl rfl⟩
  | succ n ih =>
    obtain ⟨h1, h2, h3⟩ := ih
    rw [mnl]
    by_cases hp : P n = true
    · rw [if_pos hp]
      refine ⟨by omega, fun i hi hpi => ?_, ?_⟩
      · by_cases e : i = n
        · rw [e]; omega
        · have := h2 i (by omega) hpi
          omega
      · by_cases q : f n < mnl f P d n
        · exact Or.inr ⟨n, by omega, hp, by omega⟩
        · rcases h3 with r | ⟨i, r1, r2, r3⟩
          · exact Or.inl (by omega)
          · exact Or.inr ⟨i, by omega, r2, by omega⟩
    · rw [if_neg hp]
      refine ⟨h1, fun i hi hpi => ?_, ?_⟩
      · by_cases e : i = n
        · rw [e] at hpi; exact absurd hpi hp
        · exact h2 i (by omega) hpi
      · rcases h3 with r | ⟨i, r1, r2, r3⟩
        · exact Or.inl r
        · exact Or.inr ⟨i, by omega, r2, r3⟩
theorem uc_add {p S i : Nat} (hi : i < p) (h : S.testBit i = false) : uc p (S ||| 2 ^ i) + 1 = uc p S := by
  refine ct_rm (p := fun j => !S.testBit j) (q := fun j => !(S ||| 2 ^ i).testBit j) (k := i) (fun j => ?_) (by rw [h]; rfl) hi
  rw [Nat.testBit_or, Nat.testBit_two_pow]
  by_cases e : j = i
  · rw [e]; simp
  · have : ¬ i = j := fun q => e q.symm
    simp [e, this]
theorem ct_ex {p : Nat → Bool} {n : Nat} (h : ct p n ≠ 0) : ∃ i, i < n ∧ p i = true := by
  refine Classical.byContradiction (fun q => h ?_)
  have : ∀ m, m ≤ n → ct p m = 0 := by
    intro m
    induction m with
    | zero => intro _; rfl
    | succ m ih =>
      intro hm
      rw [ct, ih (by omega)]
      cases hp : p m
      · rfl
      · exact absurd ⟨m, by omega, hp⟩ q
  exact this n (Nat.le_refl _)
section Bs
variable {T : Tx} {A : Fl} {w : Nat} {b : List Nat}
theorem lst_b (hT : GT T) : ∀ k S, uc b.length S = k → lst T A w b k S ≤ 16 := by
  intro k
  induction k with
  | zero => intro S _; exact Nat.zero_le _
  | succ k ih =>
    intro S hS
    obtain ⟨i, hi, hp⟩ := ct_ex (p := fun i => !S.testBit i) (n := b.length) (by unfold uc at hS; omega)
    have hb : S.testBit i = false := by simpa using hp
    have h1 := (mnl_le (f := fun i => max (pkk T A w b S i) (lst T A w b k (S ||| 2 ^ i))) (P := fun i => !S.testBit i) (d := b.length + 16) b.length).2.1 i hi hp
    have h2 := uc_add hi hb
    have h3 := ih (S ||| 2 ^ i) (by omega)
    have h4 : pkk T A w b S i ≤ 16 := mxE_le hT _
    rw [lst]
    omega
theorem vl_b (hT : GT T) {k S i : Nat} (hi : i < b.length) (hb : S.testBit i = false) (hS : uc b.length S = k + 1) : vl T A w b k S i ≤ 16 := by
  have h2 := uc_add hi hb
  have h3 := lst_b (A := A) (w := w) (b := b) hT k (S ||| 2 ^ i) (by omega)
  have h4 : pkk T A w b S i ≤ 16 := mxE_le hT _
  unfold vl
  omega
theorem lst_s (hT : GT T) {k S : Nat} (hS : uc b.length S = k + 1) : (∀ i, i < b.length → S.testBit i = false → lst T A w b (k + 1) S ≤ vl T A w b k S i) ∧ ∃ i, i < b.length ∧ S.testBit i = false ∧ lst T A w b (k + 1) S = vl T A w b k S i := by
  obtain ⟨_, m2, m3⟩ := mnl_le (f := fun i => max (pkk T A w b S i) (lst T A w b k (S ||| 2 ^ i))) (P := fun i => !S.testBit i) (d := b.length + 16) b.length
  have hb16 := lst_b (A := A) (w := w) (b := b) hT (k + 1) S hS
  have e : lst T A w b (k + 1) S = mnl (fun i => max (pkk T A w b S i) (lst T A w b k (S ||| 2 ^ i))) (fun i => !S.testBit i) (b.length + 16) b.length := rfl
  obtain ⟨i0, hi0, hp0⟩ := ct_ex (p := fun i => !S.testBit i) (n := b.length) (by unfold uc at hS; omega)
  refine ⟨fun i hi hb => m2 i hi (by rw [hb]; rfl), ?_⟩
  rcases m3 with q | ⟨i, q1, q2, q3⟩
  · omega
  · exact ⟨i, q1, by simpa using q2, q3⟩
/-- the first of those within m -/
theorem gr_h (hT : GT T) {k S m : Nat} (hS : uc b.length S = k + 1) (hm : lst T A w b (k + 1) S ≤ m) : nE (fun i => !S.testBit i && decide (vl T A w b k S i ≤ m)) b.length 0 < b.length ∧ S.testBit (nE (fun i => !S.testBit i && decide (vl T A w b k S i ≤ m)) b.length 0) = false ∧ vl T A w b k S (nE (fun i => !S.testBit i && decide (vl T A w b k S i ≤ m)) b.length 0) ≤ m := by
  obtain ⟨_, n2, n3, n4⟩ := nE_s (p := fun i => !S.testBit i && decide (vl T A w b k S i ≤ m)) b.length 0
  generalize nE (fun i => !S.testBit i && decide (vl T A w b k S i ≤ m)) b.length 0 = j at n2 n3 n4 ⊢
  obtain ⟨_, i, hi, hb, he⟩ := lst_s (A := A) (w := w) hT hS
  have hj : j < b.length := by
    refine Nat.lt_of_not_le (fun q => ?_)
    have := n4 i (by omega) (by omega)
    rw [hb, decide_eq_true (by omega)] at this
    cases this
  have := n3 (by omega)
  rw [Bool.and_eq_true, decide_eq_true_eq] at this
  exact ⟨hj, by simpa using this.1, this.2⟩
theorem gr_l : ∀ m k S, (gr T A w b m k S).length = k := by
  intro m k
  induction k with
  | zero => intro S; rfl
  | succ k ih => intro S; rw [gr, List.length_cons, ih]
end Bs
