/-! the tape's bytes as numbers; tokens -/
def kn (j : Nat) : Nat := if 97 ≤ j ∧ j ≤ 122 then 1 else if 48 ≤ j ∧ j ≤ 57 then 2 else if j = 59 then 3 else if j = 32 ∨ j = 10 then 5 else 4
def b8 (j : Nat) : Int32 := (Int8.ofNat j).toInt32
theorem kd_c : ∀ j, j < 256 → f_X2_kindOf (b8 j) = some (nI (kn j)) := by decide +kernel
theorem b8_n : ∀ j, j < 128 → b8 j = nI j := by decide +kernel
theorem b8_a : ∀ j, j < 256 → b8 j &&& 255 = nI j := by decide +kernel
theorem b8_ex {v : Int32} (h : v.toInt8.toInt32 = v) : ∃ j, j < 256 ∧ v = b8 j := by
  refine ⟨v.toInt8.toBitVec.toNat, v.toInt8.toBitVec.isLt, ?_⟩
  have : Int8.ofNat v.toInt8.toBitVec.toNat = v.toInt8 := Int8.toBitVec_inj.mp (by show BitVec.ofNat 8 _ = _; simp)
  unfold b8
  rw [this, h]
theorem kn_le (j : Nat) : 1 ≤ kn j ∧ kn j ≤ 5 := by
  unfold kn
  split
  · omega
  · split
    · omega
    · split
      · omega
      · split <;> omega
theorem kn_1 {j : Nat} : kn j = 1 ↔ 97 ≤ j ∧ j ≤ 122 := by
  unfold kn
  split
  · omega
  · split
    · omega
    · split
      · omega
      · split <;> omega
theorem kn_2 {j : Nat} : kn j = 2 ↔ 48 ≤ j ∧ j ≤ 57 := by
  unfold kn
  split
  · omega
  · split
    · omega
    · split
      · omega
      · split <;> omega
theorem kn_3 {j : Nat} : kn j = 3 ↔ j = 59 := by
  unfold kn
  split
  · omega
  · split
    · omega
    · split
      · omega
      · split <;> omega
theorem kn_5 {j : Nat} : kn j = 5 ↔ j = 32 ∨ j = 10 := by
  unfold kn
  split
  · omega
  · split
    · omega
    · split
      · omega
      · split <;> omega
/-- from, to, kind, value -/
abbrev Tk : Type := Nat × Nat × Nat × Nat
def rv (bt : Nat → Nat) (bs bl f : Nat) : Nat → Nat
  | 0 => 0
  | k + 1 => rv bt bs bl f k * bs + bt (f + k) - bl
def rne (bt : Nat → Nat) (n d f : Nat) : Nat := nE (fun k => decide (kn (bt k) ≠ d)) (n - f) f
def bne (bt : Nat → Nat) (n p : Nat) : Nat := nE (fun k => decide (kn (bt k) ≠ 5)) (n - p) p
def tkA (bt : Nat → Nat) (n f : Nat) : Tk :=
  if f < n then
    if kn (bt f) = 1 then (f, rne bt n 1 f, if rne bt n 1 f - f ≤ 6 then 1 else 4, rv bt 32 96 f (min 6 (rne bt n 1 f - f)))
    else if kn (bt f) = 2 then (f, rne bt n 2 f, if rne bt n 2 f - f ≤ 2 then 2 else 4, rv bt 10 48 f (min 2 (rne bt n 2 f - f)))
    else (f, f + 1, kn (bt f), 0)
  else (f, f, 0, 0)
def tok (bt : Nat → Nat) (n p : Nat) : Tk := tkA bt n (bne bt n p)
def Tape (I : MI) (a n : Nat) (bt : Nat → Nat) : Prop := n ≤ 600 ∧ ∀ k, k < n → bt k < 256 ∧ I a k = b8 (bt k)
theorem Tape.fr {I I' : MI} {a n : Nat} {bt : Nat → Nat} (h : Tape I a n bt) (e : I' a = I a) : Tape I' a n bt := ⟨h.1, fun k hk => by rw [e]; exact h.2 k hk⟩
theorem nE_le {p : Nat → Bool} {k e : Nat} : e ≤ nE p k e ∧ nE p k e ≤ e + k := ⟨(nE_s k e).1, (nE_s k e).2.1⟩
theorem bne_s {bt : Nat → Nat} {n p : Nat} (hp : p ≤ n) : p ≤ bne bt n p ∧ bne bt n p ≤ n ∧ (bne bt n p < n → kn (bt (bne bt n p)) ≠ 5) := by
  obtain ⟨h1, h2, h3, _⟩ := nE_s (p := fun k => decide (kn (bt k) ≠ 5)) (n - p) p
  unfold bne
  refine ⟨h1, by omega, fun h => ?_⟩
  have := h3 (by omega)
  rw [decide_eq_true_eq] at this
  exact this
theorem rne_s {bt : Nat → Nat} {n d f : Nat} (hf : f < n) (hd : kn (bt f) = d) : f + 1 ≤ rne bt n d f ∧ rne bt n d f ≤ n := by
  obtain ⟨h1, h2, h3, h4⟩ := nE_s (p := fun k => decide (kn (bt k) ≠ d)) (n - f) f
  unfold rne
  refine ⟨?_, by omega⟩
  refine Nat.lt_of_le_of_ne h1 (fun q => ?_)
  have := h3 (by omega)
  rw [← q, decide_eq_true_eq] at this
  exact this hd
theorem rv_b {bt : Nat → Nat} {f : Nat} : (∀ k, rv bt 32 96 f k ≤ rv bt 32 96 f k) := fun _ => Nat.le_refl _
/-- where a token lies -/
theorem tok_s {bt : Nat → Nat} {n p : Nat} (hp : p ≤ n) : p ≤ (tok bt n p).1 ∧ (tok bt n p).1 ≤ (tok bt n p).2.1 ∧ (tok bt n p).2.1 ≤ n ∧ ((tok bt n p).2.2.1 ≠ 0 → (tok bt n p).1 < (tok bt n p).2.1) ∧ (tok bt n p).2.2.1 ≤ 4 := by
  obtain ⟨b1, b2, b3⟩ := bne_s (bt := bt) hp
  unfold tok tkA
  by_cases h : bne bt n p < n
  · rw [if_pos h]
    have hk := kn_le (bt (bne bt n p))
    have h5 := b3 h
    by_cases k1 : kn (bt (bne bt n p)) = 1
    · rw [if_pos k1]
      have := rne_s h k1
      dsimp only
      refine ⟨b1, by omega, by omega, fun _ => by omega, ?_⟩
      split <;> omega
    · rw [if_neg k1]
      by_cases k2 : kn (bt (bne bt n p)) = 2
      · rw [if_pos k2]
        have := rne_s h k2
        dsimp only
        refine ⟨b1, by omega, by omega, fun _ => by omega, ?_⟩
        split <;> omega
      · rw [if_neg k2]
        dsimp only
        exact ⟨b1, by omega, by omega, fun _ => by omega, by omega⟩
  · rw [if_neg h]
    dsimp only
    exact ⟨b1, Nat.le_refl _, b2, fun q => absurd rfl q, by omega⟩
theorem rv_lt32 {bt : Nat → Nat} {n f : Nat} : ∀ k, (∀ j, j < k → kn (bt (f + j)) = 1) → rv bt 32 96 f k < 32 ^ k ∧ (0 < k → 0 < rv bt 32 96 f k) := by
  intro k
  induction k with
  | zero => intro _; exact ⟨by show 0 < 1; omega, fun h => by omega⟩
  | succ k ih =>
    intro h
    have h1 := ih (fun j hj => h j (by omega))
    have h2 := kn_1.mp (h k (by omega))
    rw [rv, Nat.pow_succ]
    omega
theorem rv_lt10 {bt : Nat → Nat} {n f : Nat} : ∀ k, (∀ j, j < k → kn (bt (f + j)) = 2) → rv bt 10 48 f k < 10 ^ k := by
  intro k
  induction k with
  | zero => intro _; show 0 < 1; omega
  | succ k ih =>
    intro h
    have h1 := ih (fun j hj => h j (by omega))
    have h2 := kn_2.mp (h k (by omega))
    rw [rv, Nat.pow_succ]
    omega
theorem run_in {bt : Nat → Nat} {n d f j : Nat} (hj : j < rne bt n d f - f) : kn (bt (f + j)) = d := by
  obtain ⟨h1, h2, h3, h4⟩ := nE_s (p := fun k => decide (kn (bt k) ≠ d)) (n - f) f
  have := h4 (f + j) (by omega) (by unfold rne at hj; omega)
  rw [decide_eq_false_iff_not] at this
  omega
theorem tok_v {bt : Nat → Nat} {n p : Nat} (hp : p ≤ n) : (tok bt n p).2.2.2 < 2 ^ 30 ∧ ((tok bt n p).2.2.1 = 2 → (tok bt n p).2.2.2 ≤ 99) ∧ ((tok bt n p).2.2.1 = 1 → 0 < (tok bt n p).2.2.2) := by
  obtain ⟨b1, b2, b3⟩ := bne_s (bt := bt) hp
  unfold tok tkA
  by_cases h : bne bt n p < n
  · rw [if_pos h]
    by_cases k1 : kn (bt (bne bt n p)) = 1
    · rw [if_pos k1]
      have hr := rne_s h k1
      have h2 := rv_lt32 (bt := bt) (n := n) (f := bne bt n p) (min 6 (rne bt n 1 (bne bt n p) - bne bt n p)) (fun j hj => run_in (n := n) (by omega))
      have h3 : 32 ^ (min 6 (rne bt n 1 (bne bt n p) - bne bt n p)) ≤ 32 ^ 6 := Nat.pow_le_pow_right (by omega) (by omega)
      dsimp only
      refine ⟨by omega, fun q => ?_, fun _ => h2.2 (by omega)⟩
      split at q <;> omega
    · rw [if_neg k1]
      by_cases k2 : kn (bt (bne bt n p)) = 2
      · rw [if_pos k2]
        have h2 := rv_lt10 (bt := bt) (n := n) (f := bne bt n p) (min 2 (rne bt n 2 (bne bt n p) - bne bt n p)) (fun j hj => run_in (n := n) (by omega))
        have h3 : 10 ^ (min 2 (rne bt n 2 (bne bt n p) - bne bt n p)) ≤ 10 ^ 2 := Nat.pow_le_pow_right (by omega) (by omega)
        dsimp only
        refine ⟨by omega, fun _ => by omega, fun q => ?_⟩
        split at q <;> omega
      · rw [if_neg k2]
        dsimp only
        exact ⟨by omega, fun q => absurd q k2, fun q => absurd q k1⟩
  · rw [if_neg h]
    dsimp only
    exact ⟨by omega, fun q => by omega, fun q => by omega⟩
/-- the class's reader at o: n signs, token t -/
def CK (I : MI) (o n : Nat) (t : Tk) : Prop := I o 1 = nI n ∧ I o 2 = nI t.2.1 ∧ I o 3 = nI t.2.2.1 ∧ I o 4 = nI t.1 ∧ I o 5 = nI t.2.2.2
section Tok
variable {o a n : Nat} {bt : Nat → Nat}
theorem bl_c (hoa : o ≠ a) : ∀ k e (I : MI), e + k = n → Tape I a n bt → I o 1 = nI n → I o 2 = nI e → Ok (lp (b_X2_advance_8 o a) I) (fun I' => I' o 2 = nI (nE (fun k => decide (kn (bt k) ≠ 5)) k e) ∧ (∀ j, j ≠ 2 → I' o j = I o j) ∧ ∀ b, b ≠ o → I' b = I b) := by
  intro k
  induction k with
  | zero =>
    intro e I he hT h1 h2
    have := hT.1
    exact Ok.mk (lp_done (it_n (by rw [h1, h2]; exact nI_nlt (by omega) (by omega)) rfl)) ⟨h2, fun _ _ => rfl, fun _ _ => rfl⟩
  | succ k ih =>
    intro e I he hT h1 h2
    have h600 := hT.1
    obtain ⟨hb, hv⟩ := hT.2 e (by omega)
    have hk := kn_le (bt e)
    have st : ∀ {r : MI ⊕ MI}, (if nI (kn (bt e)) = 5 then (wf I o 2 ((I o 2) + 1)).bind fun I8 => some (.inl I8) else some (.inr I)) = some r → b_X2_advance_8 o a I = some r := by
      intro r h
      unfold b_X2_advance_8
      exact it_p (by rw [h1, h2]; exact nI_lt (by omega) (by omega)) (bnd_s (rd_v e h2 (by omega) (by omega) hv) (bnd_s (kd_c _ hb) h))
    rw [nE]
    by_cases h5 : kn (bt e) = 5
    · rw [if_neg (by simp [h5])]
      refine ok_next (st (it_p (by rw [h5]; rfl) rfl)) ((ih (e + 1) _ (by omega) (hT.fr (mst_row _ _ _ (fun q => hoa q.symm))) ?_ ?_).im (fun I' hI' => ⟨hI'.1, fun j hj => ?_, fun b hb' => ?_⟩))
      · rw [mst_ne _ _ (Or.inr (by omega))]; exact h1
      · rw [mst_self, h2, nI_1]
      · rw [hI'.2.1 j hj, mst_ne _ _ (Or.inr hj)]
      · rw [hI'.2.2 b hb', mst_row _ _ _ hb']
    · rw [if_pos (by simpa using h5)]
      exact Ok.mk (lp_done (st (it_n (fun q => h5 ((nI_eq (by omega) (by omega)).mp q)) rfl))) ⟨h2, fun _ _ => rfl, fun _ _ => rfl⟩
theorem rg_1 : ∀ j, j < 256 → ((¬ b8 j < 97 ∧ ¬ (122 : Int32) < b8 j) ↔ kn j = 1) := by decide +kernel
theorem rg_2 : ∀ j, j < 256 → ((¬ b8 j < 48 ∧ ¬ (57 : Int32) < b8 j) ↔ kn j = 2) := by decide +kernel
theorem rg_c {d lg bs bl fi la j : Nat} (hd : d = 1 ∧ bs = 32 ∧ bl = 96 ∧ lg = 6 ∧ fi = 97 ∧ la = 122 ∨ d = 2 ∧ bs = 10 ∧ bl = 48 ∧ lg = 2 ∧ fi = 48 ∧ la = 57) (hj : j < 256) : (¬ b8 j < nI fi ∧ ¬ nI la < b8 j) ↔ kn j = d := by
  rcases hd with ⟨rfl, _, _, _, rfl, rfl⟩ | ⟨rfl, _, _, _, rfl, rfl⟩
  · exact rg_1 j hj
  · exact rg_2 j hj
theorem wv_1 {r j : Nat} (h : 97 ≤ j) (h' : j < 128) : nI r * 32 + b8 j - 97 + 1 = nI (r * 32 + j - 96) := by
  rw [b8_n _ h']
  show nI r * nI 32 + nI j - nI 97 + 1 = _
  rw [nI_mul, nI_add, nI_sub (by omega), nI_1, show r * 32 + j - 97 + 1 = r * 32 + j - 96 by omega]
theorem wv_2 {r j : Nat} (h : 48 ≤ j) (h' : j < 128) : nI r * 10 + b8 j - 48 = nI (r * 10 + j - 48) := by
  rw [b8_n _ h']
  show nI r * nI 10 + nI j - nI 48 = _
  rw [nI_mul, nI_add, nI_sub (by omega)]
theorem rr_c (hoa : o ≠ a) {d lg bs bl fi la f : Nat} (hd : d = 1 ∧ bs = 32 ∧ bl = 96 ∧ lg = 6 ∧ fi = 97 ∧ la = 122 ∨ d = 2 ∧ bs = 10 ∧ bl = 48 ∧ lg = 2 ∧ fi = 48 ∧ la = 57) : ∀ k e (I : MI), e + k = n → f ≤ e → (∀ j, f ≤ j → j < e → kn (bt j) = d) → Tape I a n bt → I o 1 = nI n → I o 2 = nI f → I o 3 = nI d → I o 5 = nI (rv bt bs bl f (min lg (e - f))) → Ok (lp (b_X2_readRun_6 o a (nI fi) (nI la) (nI lg)) (nI e, I)) (fun s => s.1 = nI (nE (fun k => decide (kn (bt k) ≠ d)) k e) ∧ s.2 o 5 = nI (rv bt bs bl f (min lg (nE (fun k => decide (kn (bt k) ≠ d)) k e - f))) ∧ (∀ j, j ≠ 5 → s.2 o j = I o j) ∧ ∀ b, b ≠ o → s.2 b = I b) := by
  intro k
  induction k with
  | zero =>
    intro e I he hf hrun hT h1 h2 h3 h5
    have := hT.1
    exact Ok.mk (lp_done (it_n (by dsimp only; rw [h1]; exact nI_nlt (by omega) (by omega)) rfl)) ⟨rfl, h5, fun _ _ => rfl, fun _ _ => rfl⟩
  | succ k ih =>
    intro e I he hf hrun hT h1 h2 h3 h5
    have h600 := hT.1
    obtain ⟨hb, hv⟩ := hT.2 e (by omega)
    have hk := kn_le (bt e)
    rw [nE]
    by_cases hdd : kn (bt e) = d
    · rw [if_neg (by simp [hdd])]
      have hge : bl ≤ bt e ∧ bt e < 128 := by
        rcases hd with ⟨rfl, _, rfl, _, _⟩ | ⟨rfl, _, rfl, _, _⟩
        · have := kn_1.mp hdd; omega
        · have := kn_2.mp hdd; omega
      have hle : e - f ≤ 600 := by omega
      refine ok_next (s' := (nI (e + 1), if e - f < lg then mst I o 5 (nI (rv bt bs bl f (min lg (e + 1 - f)))) else I)) ?_ ((ih (e + 1) _ (by omega) (by omega) (fun j h1 h2 => ?_) ?_ ?_ ?_ ?_ ?_).im (fun s hs => ⟨hs.1, hs.2.1, fun j hj => ?_, fun b hb' => ?_⟩))
      · have hrg := (rg_c hd hb).mpr hdd
        refine it_p (by dsimp only; rw [h1]; exact nI_lt (by omega) (by omega)) (bnd_s (rd_v e rfl (by omega) (by omega) hv) (it_n hrg.1 (bnd_s (rd_v e rfl (by omega) (by omega) hv) (it_n hrg.2 ?_))))
        dsimp only
        have hsub : nI e - I o 2 = nI (e - f) := by rw [h2, nI_sub hf]
        by_cases hlg : e - f < lg
        · rw [if_pos hlg]
          have e1 : min lg (e - f) = e - f := by omega
          have e2 : min lg (e + 1 - f) = (e - f) + 1 := by omega
          have hin : (if I o 3 = 1 then (rd 600 (I a) (nI e)).bind fun v13 => some (((((I o 5) * 32) + v13) - 97) + 1) else (rd 600 (I a) (nI e)).bind fun v14 => some ((((I o 5) * 10) + v14) - 48)) = some (nI (rv bt bs bl f (min lg (e + 1 - f)))) := by
            rw [e2, rv, show f + (e - f) = e by omega, h5, e1]
            rcases hd with ⟨rfl, rfl, rfl, rfl, rfl, rfl⟩ | ⟨rfl, rfl, rfl, rfl, rfl, rfl⟩
            · exact it_p (by rw [h3]; rfl) (bnd_s (rd_v e rfl (by omega) (by omega) hv) (congrArg some (wv_1 (kn_1.mp hdd).1 hge.2)))
            · exact it_n (by rw [h3]; decide) (bnd_s (rd_v e rfl (by omega) (by omega) hv) (congrArg some (wv_2 (kn_2.mp hdd).1 hge.2)))
          refine bnd_s (it_p (by rw [hsub]; exact nI_lt hlg (by omega)) (bnd_s hin (bnd_s rfl rfl))) ?_
          rw [nI_1]
        · rw [if_neg hlg]
          refine bnd_s (it_n (by rw [hsub]; exact nI_nlt (by omega) (by omega)) rfl) ?_
          rw [nI_1]
      · by_cases q : j = e
        · rw [q]; exact hdd
        · exact hrun j h1 (by omega)
      · split
        · exact hT.fr (mst_row _ _ _ (fun q => hoa q.symm))
        · exact hT
      · split
        · rw [mst_ne _ _ (Or.inr (by omega))]; exact h1
        · exact h1
      · split
        · rw [mst_ne _ _ (Or.inr (by omega))]; exact h2
        · exact h2
      · split
        · rw [mst_ne _ _ (Or.inr (by omega))]; exact h3
        · exact h3
      · by_cases hlg : e - f < lg
        · rw [if_pos hlg, mst_self]
        · rw [if_neg hlg, h5, show min lg (e - f) = min lg (e + 1 - f) by omega]
      · rw [hs.2.2.1 j hj]
        split
        · rw [mst_ne _ _ (Or.inr hj)]
        · rfl
      · rw [hs.2.2.2 b hb']
        split
        · rw [mst_row _ _ _ hb']
        · rfl
    · rw [if_pos (by simpa using hdd)]
      have hx : b_X2_readRun_6 o a (nI fi) (nI la) (nI lg) (nI e, I) = some (.inr (nI e, I)) := by
        refine it_p (by dsimp only; rw [h1]; exact nI_lt (by omega) (by omega)) (bnd_s (rd_v e rfl (by omega) (by omega) hv) ?_)
        by_cases hA : b8 (bt e) < nI fi
        · exact it_p hA rfl
        · exact it_n hA (bnd_s (rd_v e rfl (by omega) (by omega) hv) (it_p (Classical.byContradiction fun hB => hdd ((rg_c hd hb).mp ⟨hA, hB⟩)) rfl))
      exact Ok.mk (lp_done hx) ⟨rfl, h5, fun _ _ => rfl, fun _ _ => rfl⟩
theorem ru_c (hoa : o ≠ a) {d lg bs bl fi la f : Nat} {I : MI} (hd : d = 1 ∧ bs = 32 ∧ bl = 96 ∧ lg = 6 ∧ fi = 97 ∧ la = 122 ∨ d = 2 ∧ bs = 10 ∧ bl = 48 ∧ lg = 2 ∧ fi = 48 ∧ la = 57) (hT : Tape I a n bt) (hf : f ≤ n) (h1 : I o 1 = nI n) (h2 : I o 2 = nI f) (h3 : I o 3 = nI d) (h5 : I o 5 = 0) : Ok (f_X2_readRun o a (nI fi) (nI la) (nI lg) I) (fun I' => I' o 2 = nI (rne bt n d f) ∧ I' o 3 = nI (if rne bt n d f - f ≤ lg then d else 4) ∧ I' o 5 = nI (rv bt bs bl f (min lg (rne bt n d f - f))) ∧ (∀ j, j ≠ 2 → j ≠ 3 → j ≠ 5 → I' o j = I o j) ∧ ∀ b, b ≠ o → I' b = I b) := by
  have h600 := hT.1
  unfold f_X2_readRun
  rw [h2]
  refine ok_bind (rr_c (bt := bt) hoa hd (n - f) f I (by omega) (Nat.le_refl _) (fun j h1 h2 => by omega) hT h1 h2 h3 (by rw [Nat.sub_self, Nat.min_zero]; exact h5)) (fun s hs => ?_)
  obtain ⟨s1, I1⟩ := s
  obtain ⟨q1, q2, q3, q4⟩ := hs
  dsimp only at q1 q2 q3 q4
  have hle := nE_le (p := fun k => decide (kn (bt k) ≠ d)) (k := n - f) (e := f)
  change s1 = nI (rne bt n d f) at q1
  change I1 o 5 = nI (rv bt bs bl f (min lg (rne bt n d f - f))) at q2
  change f ≤ rne bt n d f ∧ rne bt n d f ≤ f + (n - f) at hle
  subst q1
  dsimp only
  have hsub : nI (rne bt n d f) - I1 o 2 = nI (rne bt n d f - f) := by rw [q3 2 (by omega), h2, nI_sub hle.1]
  by_cases hlg : lg < rne bt n d f - f
  · refine ok_bs (it_p (by rw [hsub]; exact nI_lt hlg (by omega)) (bnd_s rfl rfl)) (ok_wf (ok_some ⟨mst_self _ _ _ _, ?_, ?_, fun j h1 h2 h3 => ?_, fun b hb => ?_⟩))
    · rw [mst_ne _ _ (Or.inr (by omega)), mst_self, if_neg (by omega)]
      rfl
    · rw [mst_ne _ _ (Or.inr (by omega)), mst_ne _ _ (Or.inr (by omega))]; exact q2
    · rw [mst_ne _ _ (Or.inr h1), mst_ne _ _ (Or.inr h2)]; exact q3 j h3
    · rw [mst_row _ _ _ hb, mst_row _ _ _ hb]; exact q4 b hb
  · refine ok_bs (it_n (by rw [hsub]; exact nI_nlt (by omega) (by omega)) rfl) (ok_wf (ok_some ⟨mst_self _ _ _ _, ?_, ?_, fun j h1 h2 h3 => ?_, fun b hb => ?_⟩))
    · rw [mst_ne _ _ (Or.inr (by omega)), if_pos (by omega), q3 3 (by omega)]; exact h3
    · rw [mst_ne _ _ (Or.inr (by omega))]; exact q2
    · rw [mst_ne _ _ (Or.inr h1)]; exact q3 j h3
    · rw [mst_row _ _ _ hb]; exact q4 b hb
/-- the class goes on by a token -/
theorem ad_c (hoa : o ≠ a) {I : MI} {p : Nat} (hT : Tape I a n bt) (hp : p ≤ n) (h1 : I o 1 = nI n) (h2 : I o 2 = nI p) (h6 : I o 6 = 0) : Ok (f_X2_advance o a I) (fun I' => CK I' o n (tok bt n p) ∧ I' o 6 = 0 ∧ ∀ b, b ≠ o → I' b = I b) := by
  have h600 := hT.1
  unfold f_X2_advance
  refine ok_pos h6 (ok_bind (bl_c (bt := bt) hoa (n - p) p I (by omega) hT h1 h2) (fun I1 hI1 => ?_))
  obtain ⟨q1, q2, q3⟩ := hI1
  change I1 o 2 = nI (bne bt n p) at q1
  obtain ⟨b1, b2, b3⟩ := bne_s (bt := bt) hp
  refine ok_wq (fun I2 hI2 => ok_wq (fun I3 hI3 => ?_))
  have e2 : I3 o 2 = nI (bne bt n p) := by rw [hI3, mst_ne _ _ (Or.inr (by omega)), hI2, mst_ne _ _ (Or.inr (by omega))]; exact q1
  have e1 : I3 o 1 = nI n := by rw [hI3, mst_ne _ _ (Or.inr (by omega)), hI2, mst_ne _ _ (Or.inr (by omega)), q2 1 (by omega)]; exact h1
  have e4 : I3 o 4 = nI (bne bt n p) := by rw [hI3, mst_ne _ _ (Or.inr (by omega)), hI2, mst_self]; exact q1
  have e5 : I3 o 5 = 0 := by rw [hI3, mst_self]
  have e6 : I3 o 6 = 0 := by rw [hI3, mst_ne _ _ (Or.inr (by omega)), hI2, mst_ne _ _ (Or.inr (by omega)), q2 6 (by omega)]; exact h6
  have ef : ∀ b, b ≠ o → I3 b = I b := fun b hb => by rw [hI3, mst_row _ _ _ hb, hI2, mst_row _ _ _ hb]; exact q3 b hb
  have hT3 : Tape I3 a n bt := hT.fr (ef a (fun q => hoa q.symm))
  unfold tok tkA
  generalize bne bt n p = f at e2 e4 b1 b2 b3 ⊢
  by_cases hf : f < n
  · rw [if_pos hf]
    obtain ⟨hb, hv⟩ := hT3.2 f hf
    have hk := kn_le (bt f)
    have h5 := b3 hf
    refine ok_pos (by rw [e1, e2]; exact nI_lt hf (by omega)) (ok_bs (rd_v f e2 (by omega) (by omega) hv) (ok_bs (kd_c _ hb) (ok_wq (fun I4 hI4 => ?_))))
    have g3 : I4 o 3 = nI (kn (bt f)) := by rw [hI4, mst_self]
    have gj : ∀ j, j ≠ 3 → I4 o j = I3 o j := fun j hj => by rw [hI4, mst_ne _ _ (Or.inr hj)]
    have gf : ∀ b, b ≠ o → I4 b = I b := fun b hb => by rw [hI4, mst_row _ _ _ hb]; exact ef b hb
    have hT4 : Tape I4 a n bt := hT.fr (gf a (fun q => hoa q.symm))
    rw [g3]
    by_cases k1 : kn (bt f) = 1
    · rw [if_pos k1]
      refine ok_bind (P := fun I' : MI => CK I' o n (f, rne bt n 1 f, if rne bt n 1 f - f ≤ 6 then 1 else 4, rv bt 32 96 f (min 6 (rne bt n 1 f - f))) ∧ I' o 6 = 0 ∧ ∀ b, b ≠ o → I' b = I b) (ok_pos (by rw [k1]; rfl) (ok_bind (ru_c (d := 1) (lg := 6) (bs := 32) (bl := 96) (fi := 97) (la := 122) hoa (Or.inl ⟨rfl, rfl, rfl, rfl, rfl, rfl⟩) hT4 b2 (by rw [gj 1 (by omega)]; exact e1) (by rw [gj 2 (by omega)]; exact e2) (by rw [g3, k1]) (by rw [gj 5 (by omega)]; exact e5)) (fun I5 hI5 => ok_some ?_))) (fun I' hI' => ok_some hI')
      obtain ⟨r1, r2, r3, r4, r5⟩ := hI5
      exact ⟨⟨by rw [r4 1 (by omega) (by omega) (by omega), gj 1 (by omega)]; exact e1, r1, r2, by rw [r4 4 (by omega) (by omega) (by omega), gj 4 (by omega)]; exact e4, r3⟩, by rw [r4 6 (by omega) (by omega) (by omega), gj 6 (by omega)]; exact e6, fun b hb => (r5 b hb).trans (gf b hb)⟩
    · rw [if_neg k1]
      by_cases k2 : kn (bt f) = 2
      · rw [if_pos k2]
        refine ok_bind (P := fun I' : MI => CK I' o n (f, rne bt n 2 f, if rne bt n 2 f - f ≤ 2 then 2 else 4, rv bt 10 48 f (min 2 (rne bt n 2 f - f))) ∧ I' o 6 = 0 ∧ ∀ b, b ≠ o → I' b = I b) (ok_neg (by rw [k2]; decide) (ok_pos (by rw [k2]; rfl) (ok_bind (ru_c (d := 2) (lg := 2) (bs := 10) (bl := 48) (fi := 48) (la := 57) hoa (Or.inr ⟨rfl, rfl, rfl, rfl, rfl, rfl⟩) hT4 b2 (by rw [gj 1 (by omega)]; exact e1) (by rw [gj 2 (by omega)]; exact e2) (by rw [g3, k2]) (by rw [gj 5 (by omega)]; exact e5)) (fun I5 hI5 => ok_some ?_)))) (fun I' hI' => ok_some hI')
        obtain ⟨r1, r2, r3, r4, r5⟩ := hI5
        exact ⟨⟨by rw [r4 1 (by omega) (by omega) (by omega), gj 1 (by omega)]; exact e1, r1, r2, by rw [r4 4 (by omega) (by omega) (by omega), gj 4 (by omega)]; exact e4, r3⟩, by rw [r4 6 (by omega) (by omega) (by omega), gj 6 (by omega)]; exact e6, fun b hb => (r5 b hb).trans (gf b hb)⟩
      · rw [if_neg k2]
        refine ok_bs (it_n (fun q => k1 ((nI_eq (b := 1) (by omega) (by omega)).mp q)) (it_n (fun q => k2 ((nI_eq (b := 2) (by omega) (by omega)).mp q)) (bnd_s rfl rfl))) (ok_some ⟨⟨?_, ?_, ?_, ?_, ?_⟩, ?_, fun b hb => ?_⟩)
        · rw [mst_ne _ _ (Or.inr (by omega)), gj 1 (by omega)]; exact e1
        · rw [mst_self, gj 2 (by omega), e2, nI_1]
        · rw [mst_ne _ _ (Or.inr (by omega))]; exact g3
        · rw [mst_ne _ _ (Or.inr (by omega)), gj 4 (by omega)]; exact e4
        · rw [mst_ne _ _ (Or.inr (by omega)), gj 5 (by omega)]; exact e5
        · rw [mst_ne _ _ (Or.inr (by omega)), gj 6 (by omega)]; exact e6
        · rw [mst_row _ _ _ hb]; exact gf b hb
  · rw [if_neg hf]
    obtain rfl : f = n := by omega
    refine ok_neg (by rw [e1, e2]; exact nI_nlt (Nat.le_refl _) (by omega)) (ok_wf (ok_some ⟨⟨?_, ?_, ?_, ?_, ?_⟩, ?_, fun b hb => ?_⟩))
    · rw [mst_ne _ _ (Or.inr (by omega))]; exact e1
    · rw [mst_ne _ _ (Or.inr (by omega))]; exact e2
    · rw [mst_self]; rfl
    · rw [mst_ne _ _ (Or.inr (by omega))]; exact e4
    · rw [mst_ne _ _ (Or.inr (by omega))]; exact e5
    · rw [mst_ne _ _ (Or.inr (by omega))]; exact e6
    · rw [mst_row _ _ _ hb]; exact ef b hb
end Tok
