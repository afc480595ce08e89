/-! the best of those that are so; sets of items -/
def ab (p : Nat → Bool) : Nat → Bool
  | 0 => false
  | n + 1 => ab p n || p n
theorem ab_iff {p : Nat → Bool} {n : Nat} : ab p n = true ↔ ∃ i, i < n ∧ p i = true := by
  induction n with
  | zero => simp [ab]
  | succ n ih =>
    rw [ab, Bool.or_eq_true, ih]
    constructor
    · rintro (⟨i, h1, h2⟩ | h)
      · exact ⟨i, by omega, h2⟩
      · exact ⟨n, by omega, h⟩
    · rintro ⟨i, h1, h2⟩
      by_cases e : i = n
      · rw [e] at h2; exact Or.inr h2
      · exact Or.inl ⟨i, by omega, h2⟩
def sel (P : Nat → Bool) (R : Nat → Nat → Bool) : Nat → Nat
  | 0 => 0
  | n + 1 => if P n && (decide (sel P R n = 0) || R n (sel P R n - 1)) then n + 1 else sel P R n
def Sto (R : Nat → Nat → Bool) : Prop := (∀ a b c, R a b = true → R b c = true → R a c = true) ∧ (∀ a b, a ≠ b → R a b = true ∨ R b a = true) ∧ ∀ a b, R a b = true → R b a = false
def Bst (Q : Nat → Prop) (R : Nat → Nat → Bool) (r : Nat) : Prop := (r = 0 ∧ ∀ o, ¬ Q o) ∨ (r ≠ 0 ∧ Q (r - 1) ∧ ∀ q, Q q → q ≠ r - 1 → R (r - 1) q = true)
theorem Bst.cg {Q Q' : Nat → Prop} {R : Nat → Nat → Bool} {r : Nat} (h : Bst Q R r) (e : ∀ o, Q' o ↔ Q o) : Bst Q' R r := by
  rcases h with ⟨h1, h2⟩ | ⟨h1, h2, h3⟩
  · exact Or.inl ⟨h1, fun o q => h2 o ((e o).mp q)⟩
  · exact Or.inr ⟨h1, (e _).mpr h2, fun q hq hn => h3 q ((e q).mp hq) hn⟩
theorem Bst.uq {Q : Nat → Prop} {R : Nat → Nat → Bool} {r r' : Nat} (hR : Sto R) (h : Bst Q R r) (h' : Bst Q R r') : r = r' := by
  rcases h with ⟨h1, h2⟩ | ⟨h1, h2, h3⟩
  · rcases h' with ⟨k1, k2⟩ | ⟨k1, k2, k3⟩
    · omega
    · exact absurd k2 (h2 _)
  · rcases h' with ⟨k1, k2⟩ | ⟨k1, k2, k3⟩
    · exact absurd h2 (k2 _)
    · refine Classical.byContradiction (fun q => ?_)
      have a := h3 _ k2 (by omega)
      have b := k3 _ h2 (by omega)
      rw [hR.2.2 _ _ a] at b
      cases b
theorem Bst.st {Q : Nat → Prop} {R : Nat → Nat → Bool} {r n : Nat} (hR : Sto R) (h : Bst Q R r) (hn : ¬ Q n) : Bst (fun o => Q o ∨ o = n) R (if (decide (r = 0) || R n (r - 1)) = true then n + 1 else r) := by
  rcases h with ⟨h1, h2⟩ | ⟨h1, h2, h3⟩
  · rw [if_pos (by simp [h1])]
    exact Or.inr ⟨by omega, Or.inr rfl, fun q hq hne => hq.elim (fun w => absurd w (h2 q)) (fun w => absurd w hne)⟩
  · have hne : n ≠ r - 1 := fun w => hn (w ▸ h2)
    by_cases hr : R n (r - 1) = true
    · rw [if_pos (by simp [hr])]
      refine Or.inr ⟨by omega, Or.inr rfl, fun q hq hnq => ?_⟩
      rw [Nat.add_sub_cancel] at hnq ⊢
      rcases hq with hq | hq
      · by_cases e : q = r - 1
        · rw [e]; exact hr
        · exact hR.1 _ _ _ hr (h3 q hq e)
      · exact absurd hq hnq
    · rw [if_neg (by simp [h1, hr])]
      refine Or.inr ⟨h1, Or.inl h2, fun q hq hnq => ?_⟩
      rcases hq with hq | hq
      · exact h3 q hq hnq
      · rw [hq]
        exact (hR.2.1 _ _ hne).resolve_left hr
theorem sel_bst {P : Nat → Bool} {R : Nat → Nat → Bool} (hR : Sto R) : ∀ n, Bst (fun o => o < n ∧ P o = true) R (sel P R n) := by
  intro n
  induction n with
  | zero => exact Or.inl ⟨rfl, fun o h => by omega⟩
  | succ n ih =>
    rw [sel]
    by_cases hp : P n = true
    · have := Bst.st (n := n) hR ih (fun w => by omega)
      rw [show (P n && (decide (sel P R n = 0) || R n (sel P R n - 1))) = (decide (sel P R n = 0) || R n (sel P R n - 1)) by rw [hp]; rfl]
      refine this.cg (fun o => ⟨fun w => ?_, fun w => ?_⟩)
      · by_cases e : o = n
        · exact Or.inr e
        · exact Or.inl ⟨by omega, w.2⟩
      · rcases w with w | w
        · exact ⟨by omega, w.2⟩
        · rw [w]; exact ⟨by omega, hp⟩
    · have hp' : P n = false := by simpa using hp
      rw [hp', if_neg (by simp)]
      refine ih.cg (fun o => ⟨fun w => ?_, fun w => ⟨by omega, w.2⟩⟩)
      by_cases e : o = n
      · rw [e] at w; exact absurd w.2 hp
      · exact ⟨by omega, w.2⟩
theorem sel_le {P : Nat → Bool} {R : Nat → Nat → Bool} : ∀ n, sel P R n ≤ n := by
  intro n
  induction n with
  | zero => exact Nat.le_refl _
  | succ n ih => rw [sel]; split <;> omega
theorem sel_p {P : Nat → Bool} {R : Nat → Nat → Bool} : ∀ n, sel P R n ≠ 0 → P (sel P R n - 1) = true ∧ sel P R n - 1 < n := by
  intro n
  induction n with
  | zero => intro h; exact absurd rfl h
  | succ n ih =>
    rw [sel]
    intro h
    split at h
    · rename_i hc
      rw [if_pos hc]
      rw [Bool.and_eq_true] at hc
      exact ⟨hc.1, by omega⟩
    · rename_i hc
      rw [if_neg hc]
      have := ih h
      exact ⟨this.1, by omega⟩
theorem sel_0 {P : Nat → Bool} {R : Nat → Nat → Bool} (hR : Sto R) {n : Nat} (h : sel P R n = 0) : ∀ o, o < n → P o = false := by
  intro o ho
  rcases sel_bst (P := P) hR n with ⟨_, h2⟩ | ⟨h1, _⟩
  · cases hp : P o
    · rfl
    · exact absurd ⟨ho, hp⟩ (h2 o)
  · exact absurd h h1
/-- by two counts, then by due, then by number -/
def lxb (f g d : Nat → Nat) (o q : Nat) : Bool := decide (f q < f o) || (decide (f o = f q) && (decide (g o < g q) || (decide (g o = g q) && (decide (d o < d q) || (decide (d o = d q) && decide (o < q))))))
theorem lxb_i {f g d : Nat → Nat} {o q : Nat} : lxb f g d o q = true ↔ f q < f o ∨ f o = f q ∧ (g o < g q ∨ g o = g q ∧ (d o < d q ∨ d o = d q ∧ o < q)) := by
  unfold lxb
  simp only [Bool.or_eq_true, Bool.and_eq_true, decide_eq_true_eq]
theorem lxb_f {f g d : Nat → Nat} {o q : Nat} : lxb f g d o q = false ↔ ¬ (f q < f o ∨ f o = f q ∧ (g o < g q ∨ g o = g q ∧ (d o < d q ∨ d o = d q ∧ o < q))) := by
  rw [← lxb_i]
  cases lxb f g d o q <;> simp
theorem lxb_s (f g d : Nat → Nat) : Sto (lxb f g d) := by
  refine ⟨fun a b c h1 h2 => ?_, fun a b h => ?_, fun a b h => ?_⟩
  · rw [lxb_i] at *; omega
  · rw [lxb_i, lxb_i]; omega
  · rw [lxb_i] at h; rw [lxb_f]; omega
def erb (T : Tx) (o q : Nat) : Bool := lxb (fun _ => 0) (fun _ => 0) (tiD T) o q
theorem erb_i {T : Tx} {o q : Nat} : erb T o q = true ↔ erl T o q := by
  unfold erb erl
  rw [lxb_i]
  omega
theorem erb_s (T : Tx) : Sto (erb T) := lxb_s _ _ _
/-- the items of an order, of a set of orders -/
def itO (T : Tx) (o : Nat) : Nat := bs (fun i => decide (0 < tiN T (10 * o + i))) 10
def itS (T : Tx) (w n : Nat) : Nat := bs (fun i => ab (fun o => w.testBit o && decide (0 < tiN T (10 * o + i))) n) 10
theorem bs_lor (p q : Nat → Bool) (n : Nat) : bs p n ||| bs q n = bs (fun i => p i || q i) n := by
  refine Nat.eq_of_testBit_eq (fun i => ?_)
  rw [Nat.testBit_or, bs_t, bs_t, bs_t]
  cases decide (i < n) <;> cases p i <;> cases q i <;> rfl
theorem bs_or1 {p : Nat → Bool} {n j : Nat} {c : Bool} (hj : j < n) : bs p n ||| (if c then 2 ^ j else 0) = bs (fun i => p i || (decide (i = j) && c)) n := by
  refine Nat.eq_of_testBit_eq (fun i => ?_)
  rw [Nat.testBit_or, bs_t, bs_t]
  cases c
  · simp
  · simp only [if_true, Nat.testBit_two_pow, Bool.and_true]
    by_cases e : i = j
    · rw [e]; simp [hj]
    · have : ¬ j = i := fun q => e q.symm
      simp [e, this]
theorem itS_1 {T : Tx} {o n : Nat} (h : o < n) : itS T (2 ^ o) n = itO T o := by
  unfold itS itO
  refine bs_cg (fun i _ => ?_)
  cases h1 : ab (fun q => (2 ^ o).testBit q && decide (0 < tiN T (10 * q + i))) n
  · symm
    rw [decide_eq_false_iff_not]
    intro hp
    have : ab (fun q => (2 ^ o).testBit q && decide (0 < tiN T (10 * q + i))) n = true := ab_iff.mpr ⟨o, h, by simp [hp]⟩
    rw [this] at h1
    cases h1
  · obtain ⟨q, hq, hb⟩ := ab_iff.mp h1
    simp only [Bool.and_eq_true, Nat.testBit_two_pow, decide_eq_true_eq] at hb
    rw [hb.1]
    simp [hb.2]
theorem it_16 {p : Nat → Bool} : bs p 10 < 65536 := bs_16 (by omega)
theorem ia_c {I : MI} {t : Nat} {T : Tx} (hT : CT I t T) (hg : GT T) {w : Nat} (hw : w < 65536) : f_X3_itemsOfAll t (nI w) I = some (nI (itS T w (tiO T))) := by
  have hO := hg.2.1
  unfold f_X3_itemsOfAll
  refine bnd_s (lp_fs (fun k => (nI (itS T w k), nI k)) (tiO T) (r := (nI (itS T w (tiO T)), nI (tiO T))) (fun k hk => ?_) ?_) rfl
  · refine it_p (by rw [hT.1.2.1]; exact nI_lt hk (by omega)) ?_
    refine bnd_s (hb_s hw (by omega)) ?_
    dsimp only
    cases hb : w.testBit k
    · refine bnd_s (it_p (by simp) rfl) ?_
      rw [nI_1]
      congr 3
      unfold itS
      exact congrArg nI (bs_cg (fun i _ => by rw [ab, hb]; simp))
    · refine bnd_s (it_n (by simp) (bnd_s (rd_v k rfl (by omega) (by omega) (hT.2.2.2.2.2.1 k (by omega))) rfl)) ?_
      rw [nI_1, b_lor]
      unfold itS
      rw [bs_lor]
      congr 3
      exact congrArg nI (bs_cg (fun i _ => by rw [ab, hb]; simp))
  · exact it_n (by rw [hT.1.2.1]; exact nI_nlt (Nat.le_refl _) (by omega)) rfl
theorem im_m {K : MI} {m : Nat} {J : MJ} {T : Tx} (hT : MT K m T) (hg : GT T) {w : Nat} (hw : w < 65536) : f_X5_itemsOf m (nI w) J K = some (nI (itS T w (tiO T))) := by
  have hO := hg.2.1
  unfold f_X5_itemsOf
  refine bnd_s (lp_fs (fun k => (nI (itS T w k), nI k)) (tiO T) (r := (nI (itS T w (tiO T)), nI (tiO T))) (fun k hk => ?_) ?_) rfl
  · refine bnd_s (rd_v 0 rfl (by omega) (by omega) hT.1.2.1) ?_
    refine it_p (nI_lt hk (by omega)) ?_
    have e0 : nI (itS T w k) = nI (bs (fun i => ab (fun o => w.testBit o && decide (0 < tiN T (10 * o + i))) k || (decide (i < 0) && (w.testBit k && decide (0 < tiN T (10 * k + i))))) 10) := congrArg nI (bs_cg (fun i _ => by simp))
    dsimp only
    rw [e0]
    refine bnd_s (lp_fs (fun j => (nI (bs (fun i => ab (fun o => w.testBit o && decide (0 < tiN T (10 * o + i))) k || (decide (i < j) && (w.testBit k && decide (0 < tiN T (10 * k + i))))) 10), nI j)) 10 (r := (nI (itS T w (k + 1)), nI 10)) (fun j hj => ?_) ?_) ?_
    · refine it_p (nI_lt (b := 10) hj (by omega)) ?_
      have hn := (hg.2.2.2.2.2.2.2.1 (10 * k + j) (by omega)).1
      refine bnd_s (a := nI (if (w.testBit k && decide (0 < tiN T (10 * k + j))) = true then 2 ^ j else 0)) ?_ ?_
      · rw [b_is (by omega) (by omega)]
        cases hb : w.testBit k
        · exact it_n (by decide) rfl
        · refine it_p rfl (bnd_s (rd_v (10 * k + j) (ci_m k j) (by omega) (by omega) (hT.2.2.2 _ (by omega))) ?_)
          by_cases h0 : 0 < tiN T (10 * k + j)
          · refine it_p ((nI_p0 (by omega)).mpr h0) ?_
            rw [decide_eq_true h0]
            dsimp only
            rw [b_one (by omega)]
            rfl
          · refine it_n (fun q => h0 ((nI_p0 (by omega)).mp q)) ?_
            rw [decide_eq_false h0]
            rfl
      · dsimp only
        rw [b_lor, bs_or1 hj, nI_1]
        congr 3
        refine congrArg nI (bs_cg (fun i _ => ?_))
        by_cases e : i = j
        · rw [e]; simp
        · have : (i < j + 1) ↔ i < j := by omega
          simp [e, this]
    · refine it_n (nI_nlt (a := 10) (b := 10) (by omega) (by omega)) ?_
      congr 3
    · dsimp only
      rw [nI_1]
  · refine bnd_s (rd_v 0 rfl (by omega) (by omega) hT.1.2.1) ?_
    exact it_n (nI_nlt (Nat.le_refl _) (by omega)) rfl
/-- which of two is the earlier -/
theorem er_m {K : MI} {m : Nat} {J : MJ} {T : Tx} (hT : MT K m T) (hg : GT T) {o q : Nat} (ho : o < tiO T) (hq : q < tiO T) : f_X5_isEarlier m (nI o) (nI q) J K = some (if erb T o q = true then 1 else 0) := by
  have hO := hg.2.1
  have d1 := hg.2.2.2.2.2.2.1 o ho
  have d2 := hg.2.2.2.2.2.2.1 q hq
  unfold f_X5_isEarlier
  refine bnd_s (rd_v o rfl (by omega) (by omega) (hT.2.2.1 o ho)) (bnd_s (rd_v q rfl (by omega) (by omega) (hT.2.2.1 q hq)) ?_)
  refine bnd_s (a := if erb T o q = true then 1 else 0) ?_ ?_
  · by_cases e : tiD T o = tiD T q
    · refine it_p (by rw [e]) ?_
      by_cases h : o < q
      · exact it_p (nI_lt h (by omega)) (by rw [if_pos (by rw [erb_i]; unfold erl; omega)])
      · exact it_n (nI_nlt (by omega) (by omega)) (by rw [if_neg (by rw [erb_i]; unfold erl; omega)])
    · refine it_n (fun w => e ((nI_eq (by omega) (by omega)).mp w)) (bnd_s (rd_v o rfl (by omega) (by omega) (hT.2.2.1 o ho)) (bnd_s (rd_v q rfl (by omega) (by omega) (hT.2.2.1 q hq)) ?_))
      by_cases h : tiD T o < tiD T q
      · exact it_p (nI_lt h (by omega)) (by rw [if_pos (by rw [erb_i]; unfold erl; omega)])
      · exact it_n (nI_nlt (by omega) (by omega)) (by rw [if_neg (by rw [erb_i]; unfold erl; omega)])
  · split <;> rfl
/-- the earliest of a set -/
theorem fo_m {K : MI} {m : Nat} {J : MJ} {T : Tx} (hT : MT K m T) (hg : GT T) {w : Nat} (hw : w < 65536) : f_X5_firstOf m (nI w) J K = some (nI (sel (fun o => w.testBit o) (erb T) (tiO T)) - 1) := by
  have hO := hg.2.1
  unfold f_X5_firstOf
  refine bnd_s (lp_fs (fun k => (nI (sel (fun o => w.testBit o) (erb T) k) - 1, nI k)) (tiO T) (r := (nI (sel (fun o => w.testBit o) (erb T) (tiO T)) - 1, nI (tiO T))) (fun k hk => ?_) ?_) rfl
  · refine bnd_s (rd_v 0 rfl (by omega) (by omega) hT.1.2.1) (it_p (nI_lt hk (by omega)) ?_)
    have hl := sel_le (P := fun o => w.testBit o) (R := erb T) k
    refine bnd_s (a := nI (sel (fun o => w.testBit o) (erb T) (k + 1)) - 1) ?_ (by dsimp only; rw [nI_1])
    rw [b_is (by omega) (by omega), sel]
    cases hb : w.testBit k
    · exact it_n (by decide) rfl
    · refine it_p rfl ?_
      dsimp only
      by_cases h0 : sel (fun o => w.testBit o) (erb T) k = 0
      · refine it_p ((m1_l (by omega)).mpr h0) ?_
        rw [if_pos (by simp [h0]), nI_pred]
      · refine it_n (fun q => h0 ((m1_l (by omega)).mp q)) ?_
        rw [m1_p h0]
        refine bnd_s (er_m hT hg hk (by omega)) ?_
        cases he : erb T k (sel (fun o => w.testBit o) (erb T) k - 1)
        · refine it_p (by simp) ?_
          rw [if_neg (by simp [h0]), m1_p h0]
        · refine it_n (by simp) ?_
          rw [if_pos (by simp), nI_pred]
  · exact bnd_s (rd_v 0 rfl (by omega) (by omega) hT.1.2.1) (it_n (nI_nlt (Nat.le_refl _) (by omega)) rfl)
/-- the orders by earliness -/
def Qe (T : Tx) (P : Nat → Bool) (k o : Nat) : Prop := (∃ e, e < k ∧ tiE T e = o) ∧ P o = true
theorem Qe_all {T : Tx} (hg : GT T) {P : Nat → Bool} {o : Nat} : (o < tiO T ∧ P o = true) ↔ Qe T P (tiO T) o := by
  constructor
  · rintro ⟨h1, h2⟩
    obtain ⟨e, he, h3⟩ := hg.2.2.2.2.2.2.2.2.2.2.2 o h1
    exact ⟨⟨e, he, h3⟩, h2⟩
  · rintro ⟨⟨e, he, h3⟩, h2⟩
    exact ⟨h3 ▸ hg.2.2.2.2.2.2.2.2.2.1 e he, h2⟩
theorem Qe_no {T : Tx} {P : Nat → Bool} {k o : Nat} (h : P (tiE T k) = false) : Qe T P (k + 1) o ↔ Qe T P k o := by
  constructor
  · rintro ⟨⟨e, he, h3⟩, h2⟩
    by_cases q : e = k
    · rw [← h3, q, h] at h2; cases h2
    · exact ⟨⟨e, by omega, h3⟩, h2⟩
  · rintro ⟨⟨e, he, h3⟩, h2⟩
    exact ⟨⟨e, by omega, h3⟩, h2⟩
theorem Qe_yes {T : Tx} {P : Nat → Bool} {k o : Nat} (h : P (tiE T k) = true) : Qe T P (k + 1) o ↔ Qe T P k o ∨ o = tiE T k := by
  constructor
  · rintro ⟨⟨e, he, h3⟩, h2⟩
    by_cases q : e = k
    · exact Or.inr (by rw [← h3, q])
    · exact Or.inl ⟨⟨e, by omega, h3⟩, h2⟩
  · rintro (⟨⟨e, he, h3⟩, h2⟩ | q)
    · exact ⟨⟨e, by omega, h3⟩, h2⟩
    · exact ⟨⟨k, by omega, q.symm⟩, q ▸ h⟩
theorem er_inj {T : Tx} (hg : GT T) {e e' : Nat} (h : e < tiO T) (h' : e' < tiO T) (q : tiE T e = tiE T e') : e = e' := by
  have H := hg.2.2.2.2.2.2.2.2.2.2.1
  rcases Nat.lt_trichotomy e e' with w | w | w
  · have := H e e' w h'
    rw [q] at this
    unfold erl at this
    omega
  · exact w
  · have := H e' e w h
    rw [q] at this
    unfold erl at this
    omega
theorem Qe_new {T : Tx} (hg : GT T) {P : Nat → Bool} {k : Nat} (hk : k < tiO T) : ¬ Qe T P k (tiE T k) := by
  rintro ⟨⟨e, he, h⟩, _⟩
  have := er_inj hg (by omega) hk h
  omega
theorem Qe_er {T : Tx} (hg : GT T) {P : Nat → Bool} {k o : Nat} (hk : k < tiO T) (h : Qe T P k o) : erb T o (tiE T k) = true := by
  obtain ⟨⟨e, he, h⟩, _⟩ := h
  rw [erb_i, ← h]
  exact hg.2.2.2.2.2.2.2.2.2.2.1 e k he hk
theorem fo_c {I : MI} {t : Nat} {T : Tx} (hT : CT I t T) (hg : GT T) {w : Nat} (hw : w < 65536) : f_X3_earliest t (nI w) I = some (nI (sel (fun o => w.testBit o) (erb T) (tiO T)) - 1) := by
  have hO := hg.2.1
  have hE := hg.2.2.2.2.2.2.2.2.2.1
  have key : Ok (f_X3_earliest t (nI w) I) (fun v => v = nI (sel (fun o => w.testBit o) (erb T) (tiO T)) - 1) := by
    unfold f_X3_earliest
    refine ok_bind (P := fun p => Sum.elim (fun v : Int32 => ∃ k, k < tiO T ∧ v = nI (tiE T k) ∧ Bst (Qe T (fun o => w.testBit o) (tiO T)) (erb T) (tiE T k + 1)) (fun _ => ∀ o, ¬ Qe T (fun o => w.testBit o) (tiO T) o) p) (ok_up (tiO T) (fun k s => s = nI k ∧ ∀ o, ¬ Qe T (fun o => w.testBit o) k o) (fun k s hk hs => ?_) (fun s hs => ?_) 0 0 (by omega) ⟨rfl, ?_⟩) (fun p hp => ?_)
    · obtain ⟨rfl, hn⟩ := hs
      refine ok_pos (by rw [hT.1.2.1]; exact nI_lt hk (by omega)) (ok_bs (rd_v k rfl (by omega) (by omega) (hT.2.2.2.2.2.2 k hk)) (ok_bs (hb_s hw (by have := hE k hk; omega)) ?_))
      cases hb : w.testBit (tiE T k)
      · refine ok_pos (by simp) (ok_some ⟨nI_1 k, fun o q => hn o ((Qe_no (P := fun o => w.testBit o) hb).mp q)⟩)
      · refine ok_neg (by simp) (ok_bs (rd_v k rfl (by omega) (by omega) (hT.2.2.2.2.2.2 k hk)) (ok_some ⟨k, hk, rfl, Or.inr ⟨by omega, ⟨⟨k, hk, rfl⟩, hb⟩, fun q hq hne => ?_⟩⟩))
        obtain ⟨⟨e, he, hq1⟩, hq2⟩ := hq
        rw [Nat.add_sub_cancel] at hne ⊢
        have hek : k < e := by
          rcases Nat.lt_trichotomy e k with w1 | w1 | w1
          · exact absurd ⟨⟨e, w1, hq1⟩, hq2⟩ (hn q)
          · exact absurd (by rw [← hq1, w1]) hne
          · exact w1
        rw [erb_i, ← hq1]
        exact hg.2.2.2.2.2.2.2.2.2.2.1 k e hek he
    · obtain ⟨rfl, hn⟩ := hs
      exact ok_neg (by rw [hT.1.2.1]; exact nI_nlt (Nat.le_refl _) (by omega)) (ok_some hn)
    · rintro o ⟨⟨e, he, _⟩, _⟩
      omega
    · have hs := (sel_bst (P := fun o => w.testBit o) (erb_s T) (tiO T)).cg (fun o => (Qe_all (P := fun o => w.testBit o) hg).symm)
      cases p with
      | inl v =>
        obtain ⟨k, hk, rfl, hB⟩ := hp
        refine ok_some ?_
        rw [hs.uq (erb_s T) hB, nI_pred]
      | inr q =>
        refine ok_some ?_
        rw [hs.uq (erb_s T) (Or.inl ⟨rfl, hp⟩)]
        exact m1_z.symm
  obtain ⟨v, hv, rfl⟩ := key
  exact hv
