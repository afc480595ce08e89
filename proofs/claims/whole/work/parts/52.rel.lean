/-! release: what it does to a floor -/
def mkR (A : Fl) (s w l : Nat → Nat) (b : List Nat) : Fl := ((s, w, flH A, flO A, flA A, l), flT A, b, flD A, flC A)
def Ag (ni : Nat) (X Y : Fl) : Prop := (∀ i, i < ni → flS X i = flS Y i) ∧ (∀ o, o < 16 → flW X o = flW Y o) ∧ (∀ o, o < 16 → flH X o = flH Y o) ∧ (∀ h, h < 8 → flO X h = flO Y h) ∧ (∀ c, c < 160 → flA X c = flA Y c) ∧ (∀ c, c < 160 → flL X c = flL Y c) ∧ flT X = flT Y ∧ flB X = flB Y ∧ flC X = flC Y
theorem CG.eq {ni f : Nat} {I : MI} {X Y : Fl} (h : CG ni I f X) (e : Ag ni X Y) : CG ni I f Y := by
  obtain ⟨h1, h2, h3, h4, h5, h6, ⟨h7, h8, h9⟩, h10, h11⟩ := h
  obtain ⟨e1, e2, e3, e4, e5, e6, e7, e8, e9⟩ := e
  rw [e7] at h7 h8 h9
  rw [e8] at h8 h9
  rw [e9] at h10 h11
  exact ⟨fun i hi => by rw [← e1 i hi]; exact h1 i hi, fun i hi => by rw [← e2 i hi]; exact h2 i hi, fun i hi => by rw [← e3 i hi]; exact h3 i hi, fun i hi => by rw [← e4 i hi]; exact h4 i hi, fun i hi => by rw [← e5 i hi]; exact h5 i hi, fun i hi => by rw [← e6 i hi]; exact h6 i hi, ⟨h7, h8, h9⟩, h10, h11⟩
theorem MG.eq {ni : Nat} {S : Nat → Int32} {X Y : Fl} (h : MG ni S X) (e : Ag ni X Y) : MG ni S Y := by
  obtain ⟨h1, h2, h3, h4, h5, h6, ⟨h7, h8⟩, h10, h11⟩ := h
  obtain ⟨e1, e2, e3, e4, e5, e6, e7, e8, e9⟩ := e
  rw [e8] at h7 h8
  rw [e9] at h10 h11
  exact ⟨fun i hi => by rw [← e1 i hi]; exact h1 i hi, fun i hi => by rw [← e2 i hi]; exact h2 i hi, fun i hi => by rw [← e3 i hi]; exact h3 i hi, fun i hi => by rw [← e4 i hi]; exact h4 i hi, fun i hi => by rw [← e5 i hi]; exact h5 i hi, fun i hi => by rw [← e6 i hi]; exact h6 i hi, ⟨h7, h8⟩, h10, h11⟩
def rfe (T : Tx) (w i u : Nat) (A : Fl) : Nat → Fl
  | 0 => A
  | e + 1 => ubn (rfe T w i u A e) (10 * tiE T e + i) (gv T w i u e)
def rfi (T : Tx) (A0 : Fl) (w i : Nat) (X : Fl) : Fl := rfe T w i (un T A0 w i) (setS X i (flS X i - un T A0 w i)) (tiO T)
def rfs (T : Tx) (A0 : Fl) (w : Nat) : List Nat → Fl → Fl
  | [], X => X
  | i :: l, X => rfs T A0 w l (rfi T A0 w i X)
def bie (T : Tx) (w i u : Nat) : Nat → List Nat
  | 0 => []
  | e + 1 => bie T w i u e ++ List.replicate (gv T w i u e) (10 * tiE T e + i)
def bil (T : Tx) (A0 : Fl) (w : Nat) : List Nat → List Nat
  | [] => []
  | i :: l => bie T w i (un T A0 w i) (tiO T) ++ bil T A0 w l
/-- the parts that a step leaves -/
def Sm (X Y : Fl) : Prop := flW Y = flW X ∧ flH Y = flH X ∧ flO Y = flO X ∧ flA Y = flA X ∧ flT Y = flT X ∧ flD Y = flD X ∧ flC Y = flC X
theorem Sm.tr {X Y Z : Fl} (h : Sm X Y) (h' : Sm Y Z) : Sm X Z := ⟨h'.1.trans h.1, h'.2.1.trans h.2.1, h'.2.2.1.trans h.2.2.1, h'.2.2.2.1.trans h.2.2.2.1, h'.2.2.2.2.1.trans h.2.2.2.2.1, h'.2.2.2.2.2.1.trans h.2.2.2.2.2.1, h'.2.2.2.2.2.2.trans h.2.2.2.2.2.2⟩
theorem sm_ubn {A : Fl} {c n : Nat} : Sm A (ubn A c n) ∧ flS (ubn A c n) = flS A ∧ flB (ubn A c n) = flB A ++ List.replicate n c ∧ flL (ubn A c n) = pu (flL A) c (flL A c - n) := by
  rw [ubn_e]
  exact ⟨⟨rfl, rfl, rfl, rfl, rfl, rfl, rfl⟩, rfl, rfl, rfl⟩
theorem rfe_s {T : Tx} (hT : GT T) {w i u : Nat} {A : Fl} (hi : i < 10) : ∀ e, e ≤ tiO T → Sm A (rfe T w i u A e) ∧ flS (rfe T w i u A e) = flS A ∧ flB (rfe T w i u A e) = flB A ++ bie T w i u e ∧ ∀ c, c < 160 → flL (rfe T w i u A e) c = if c % 10 = i ∧ c / 10 < tiO T ∧ ixE T (c / 10) < e then flL A c - gv T w i u (ixE T (c / 10)) else flL A c := by
  intro e
  induction e with
  | zero => intro _; exact ⟨⟨rfl, rfl, rfl, rfl, rfl, rfl, rfl⟩, rfl, by rw [bie, List.append_nil]; rfl, fun c _ => by rw [if_neg (by omega)]; rfl⟩
  | succ e ih =>
    intro he
    obtain ⟨h1, h2, h3, h4⟩ := ih (by omega)
    obtain ⟨k1, k2, k3, k4⟩ := sm_ubn (A := rfe T w i u A e) (c := 10 * tiE T e + i) (n := gv T w i u e)
    have hE := tE_lt hT (e := e) (by omega)
    have hO := hT.2.1
    rw [rfe]
    refine ⟨h1.tr k1, k2.trans h2, by rw [k3, h3, bie, List.append_assoc], fun c hc => ?_⟩
    rw [k4]
    by_cases q : c = 10 * tiE T e + i
    · rw [q, pu_s, h4 _ (by omega), show (10 * tiE T e + i) / 10 = tiE T e by omega, ix_e hT (by omega), if_neg (by omega), if_pos ⟨by omega, hE, by omega⟩]
    · rw [pu_n q, h4 c hc]
      have : ¬ (c % 10 = i ∧ c / 10 < tiO T ∧ ixE T (c / 10) = e) := fun r => by
        have := (ix_o hT r.2.1).2
        rw [r.2.2] at this
        omega
      by_cases r : c % 10 = i ∧ c / 10 < tiO T ∧ ixE T (c / 10) < e
      · rw [if_pos r, if_pos ⟨r.1, r.2.1, by omega⟩]
      · rw [if_neg r, if_neg (by omega)]
theorem rfi_s {T : Tx} (hT : GT T) {w i : Nat} {A0 X : Fl} (hi : i < 10) : Sm X (rfi T A0 w i X) ∧ flS (rfi T A0 w i X) = pu (flS X) i (flS X i - un T A0 w i) ∧ flB (rfi T A0 w i X) = flB X ++ bie T w i (un T A0 w i) (tiO T) ∧ ∀ c, c < 160 → flL (rfi T A0 w i X) c = if c % 10 = i then flL X c - shc T A0 w c else flL X c := by
  obtain ⟨h1, h2, h3, h4⟩ := rfe_s hT (w := w) (u := un T A0 w i) (A := setS X i (flS X i - un T A0 w i)) hi (tiO T) (Nat.le_refl _)
  refine ⟨h1, h2, h3, fun c hc => ?_⟩
  show flL (rfe T w i (un T A0 w i) (setS X i (flS X i - un T A0 w i)) (tiO T)) c = _
  rw [h4 c hc]
  by_cases q : c % 10 = i
  · rw [if_pos q]
    unfold shc
    by_cases r : c / 10 < tiO T
    · rw [if_pos ⟨q, r, (ix_o hT r).1⟩, if_pos r, q]
      rfl
    · rw [if_neg (by omega), if_neg r]
      rfl
  · rw [if_neg (by omega), if_neg q]
    rfl
theorem rfs_s {T : Tx} (hT : GT T) {w : Nat} {A0 : Fl} : ∀ (l : List Nat) (X : Fl), l.Nodup → (∀ i, i ∈ l → i < 10) → Sm X (rfs T A0 w l X) ∧ (∀ i, flS (rfs T A0 w l X) i = if i ∈ l then flS X i - un T A0 w i else flS X i) ∧ flB (rfs T A0 w l X) = flB X ++ bil T A0 w l ∧ ∀ c, c < 160 → flL (rfs T A0 w l X) c = if c % 10 ∈ l then flL X c - shc T A0 w c else flL X c := by
  intro l
  induction l with
  | nil => intro X _ _; exact ⟨⟨rfl, rfl, rfl, rfl, rfl, rfl, rfl⟩, fun i => by rw [if_neg (by simp)]; rfl, by rw [bil, List.append_nil]; rfl, fun c _ => by rw [if_neg (by simp)]; rfl⟩
  | cons j l ih =>
    intro X hn hl
    obtain ⟨hj, hn'⟩ := List.nodup_cons.mp hn
    obtain ⟨k1, k2, k3, k4⟩ := rfi_s hT (w := w) (A0 := A0) (X := X) (hl j (List.mem_cons_self ..))
    obtain ⟨h1, h2, h3, h4⟩ := ih (rfi T A0 w j X) hn' (fun i hi => hl i (List.mem_cons_of_mem _ hi))
    rw [rfs]
    refine ⟨k1.tr h1, fun i => ?_, by rw [h3, k3, bil, List.append_assoc], fun c hc => ?_⟩
    · rw [h2, k2]
      by_cases e : i = j
      · rw [e, if_neg hj, pu_s, if_pos (List.mem_cons_self ..)]
      · rw [pu_n e]
        by_cases q : i ∈ l
        · rw [if_pos q, if_pos (List.mem_cons_of_mem _ q)]
        · rw [if_neg q, if_neg (fun w => (List.mem_cons.mp w).elim e q)]
    · rw [h4 c hc, k4 c hc]
      by_cases e : c % 10 = j
      · rw [e, if_neg hj, if_pos rfl, if_pos (List.mem_cons_self ..)]
      · rw [if_neg e]
        by_cases q : c % 10 ∈ l
        · rw [if_pos q, if_pos (List.mem_cons_of_mem _ q)]
        · rw [if_neg q, if_neg (fun w => (List.mem_cons.mp w).elim e q)]
/-- the reference's floor once the orders of the wave are let go, nothing picked yet -/
def A1 (T : Tx) (A : Fl) (w : Nat) : Fl := mkR A (flS A) (fun o => if w.testBit o then 1 else flW A o) (fun c => if w.testBit (c / 10) then tiN T c else flL A c) (flB A)
def Wok (T : Tx) (A : Fl) (w : Nat) : Prop := w < 65536 ∧ ∀ o, w.testBit o = true → o < tiO T ∧ flW A o = 0
theorem gh_A1 {T : Tx} {A : Fl} {w : Nat} (hT : GT T) (g : GH T A) (hw : Wok T A w) : GH T (A1 T A w) := by
  obtain ⟨g1, g2, g3, g4, g5, g6, g7, g8, g9, g10⟩ := g
  have hO := hT.2.1
  have hrel : ∀ c, rel T (A1 T A w) c = if w.testBit (c / 10) then tiN T c else rel T A c := by
    intro c
    unfold rel
    show (if (if w.testBit (c / 10) = true then 1 else flW A (c / 10)) = 0 then 0 else tiN T c) = _
    cases hb : w.testBit (c / 10)
    · rfl
    · rfl
  have hz : ∀ c, c < 160 → w.testBit (c / 10) = true → flA A c = 0 ∧ flL A c = 0 ∧ (flB A).count c = 0 ∧ (flD A).count c = 0 ∧ rel T A c = 0 := by
    intro c hc hb
    have := (hw.2 _ hb).2
    have e := g4 c hc
    have hr : rel T A c = 0 := by unfold rel; rw [if_pos this]
    omega
  refine ⟨g1, fun o ho => ?_, g3, fun c hc => ?_, g5, g6, ?_, ?_, g9, g10⟩
  · show (if w.testBit o = true then 1 else flW A o) ≤ 4 ∧ flH A o ≤ 8 ∧ ((if w.testBit o = true then 1 else flW A o) = 2 ↔ flH A o ≠ 0) ∧ (tiO T ≤ o → (if w.testBit o = true then 1 else flW A o) = 0) ∧ ((if w.testBit o = true then 1 else flW A o) = 4 → sm (flA A) (10 * o) 10 = tot T o)
    have h2 := g2 o ho
    cases hb : w.testBit o
    · exact h2
    · have h3 := hw.2 o hb
      refine ⟨by simp, h2.2.1, ?_, fun q => by omega, fun q => by simp at q⟩
      have := h2.2.2.1
      simp
      omega
  · rw [hrel]
    show flA A c + (if w.testBit (c / 10) = true then tiN T c else flL A c) + (flB A).count c + (flD A).count c = _
    cases hb : w.testBit (c / 10)
    · exact g4 c hc
    · have := hz c hc hb
      simp only [if_true]
      omega
  · show (flC A).length = _
    rw [g7]
    refine sm_eq (fun i hi => ?_)
    unfold dn
    show _ = if (if w.testBit (0 + i) = true then 1 else flW A (0 + i)) = 4 then 1 else 0
    cases hb : w.testBit (0 + i)
    · rfl
    · have := hw.2 _ hb
      rw [this.2]
      rfl
  · show flT A + (flB A).length + sm (fun c => if w.testBit (c / 10) = true then tiN T c else flL A c) 0 160 = _
    have e1 : ∀ n, n ≤ 160 → sm (fun c => if w.testBit (c / 10) = true then tiN T c else flL A c) 0 n + sm (rel T A) 0 n = sm (flL A) 0 n + sm (rel T (A1 T A w)) 0 n := by
      intro n
      induction n with
      | zero => intro _; rfl
      | succ n ih =>
        intro hn
        have := ih (by omega)
        rw [sm, sm, sm, sm, hrel]
        cases hb : w.testBit ((0 + n) / 10)
        · simp only [Bool.false_eq_true, if_false]
          omega
        · have := hz (0 + n) (by omega) hb
          simp only [if_true]
          omega
    have := e1 160 (Nat.le_refl _)
    omega
theorem gh_rfe {T : Tx} (hT : GT T) {w i u : Nat} {A : Fl} (g : GH T A) (hi : i < 10) (hL : ∀ e, e < tiO T → gv T w i u e ≤ flL A (10 * tiE T e + i)) : ∀ e, e ≤ tiO T → GH T (rfe T w i u A e) := by
  intro e
  induction e with
  | zero => intro _; exact g
  | succ e ih =>
    intro he
    have hE := tE_lt hT (e := e) (by omega)
    have hO := hT.2.1
    obtain ⟨_, _, _, h4⟩ := rfe_s hT (w := w) (u := u) (A := A) hi e (by omega)
    refine gh_ubn (ih (by omega)) (by omega) _ ?_
    rw [h4 _ (by omega), show (10 * tiE T e + i) / 10 = tiE T e by omega, ix_e hT (by omega), if_neg (by omega)]
    exact hL e (by omega)
theorem gh_rfs {T : Tx} (hT : GT T) {w : Nat} {A0 : Fl} : ∀ (l : List Nat) (X : Fl), l.Nodup → (∀ i, i ∈ l → i < tiI T) → GH T X → (∀ i e, i ∈ l → e < tiO T → gv T w i (un T A0 w i) e ≤ flL X (10 * tiE T e + i)) → GH T (rfs T A0 w l X) := by
  intro l
  have hI := hT.1
  have hO := hT.2.1
  induction l with
  | nil => intro X _ _ g _; exact g
  | cons j l ih =>
    intro X hn hl g hL
    obtain ⟨hj, hn'⟩ := List.nodup_cons.mp hn
    have hj10 := hl j (List.mem_cons_self ..)
    obtain ⟨k1, k2, k3, k4⟩ := rfi_s hT (w := w) (A0 := A0) (X := X) (i := j) (by omega)
    rw [rfs]
    have g1 : GH T (rfi T A0 w j X) := by
      refine gh_rfe hT (gh_S g ?_) (by omega) (fun e he => hL j e (List.mem_cons_self ..) he) _ (Nat.le_refl _)
      have := g.1 j hj10
      omega
    refine ih _ hn' (fun i hi => hl i (List.mem_cons_of_mem _ hi)) g1 (fun i e hi he => ?_)
    have hE := tE_lt hT he
    have hi10 := hl i (List.mem_cons_of_mem _ hi)
    rw [k4 _ (by omega), if_neg (by intro q; have : i = j := by omega
                                    exact hj (this ▸ hi))]
    exact hL i e (List.mem_cons_of_mem _ hi) he
theorem gv_w {T : Tx} {w i u e : Nat} (h : w.testBit (tiE T e) = false) : gv T w i u e = 0 := by unfold gv; rw [h]; rfl
/-- the floor behind a release -/
def rlF (T : Tx) (A : Fl) (w : Nat) (l : List Nat) : Fl := rfs T A w l (A1 T A w)
theorem gf_rl {T : Tx} {A : Fl} {w : Nat} {l : List Nat} (hT : GT T) (g : GF T A) (hw : Wok T A w) (hl : Pk T A w l) : GF T (rlF T A w l) := by
  have hI := hT.1
  have hO := hT.2.1
  have hl10 : ∀ i, i ∈ l → i < tiI T := fun i hi => ((hl.2 i).mp hi).1
  refine ⟨gh_rfs hT l _ (pw_nd hl.1) hl10 (gh_A1 hT g.1 hw) (fun i e hi he => ?_), fun c hc => ?_⟩
  · have hi10 := hl10 i hi
    have hE := tE_lt hT he
    show _ ≤ if w.testBit ((10 * tiE T e + i) / 10) = true then tiN T (10 * tiE T e + i) else flL A (10 * tiE T e + i)
    rw [show (10 * tiE T e + i) / 10 = tiE T e by omega]
    cases hb : w.testBit (tiE T e)
    · rw [gv_w hb]; omega
    · exact gv_le.2
  · obtain ⟨s, _, _, _⟩ := rfs_s hT (w := w) (A0 := A) l (A1 T A w) (pw_nd hl.1) (fun i hi => by have := hl10 i hi; omega)
    have hD : flD (rlF T A w l) = flD A := s.2.2.2.2.2.1
    rw [hD] at hc
    have := g.2 c hc
    have e1 : flW (rlF T A w l) = fun o => if w.testBit o then 1 else flW A o := s.1
    have e2 : flO (rlF T A w l) = flO A := s.2.2.1
    unfold cn at this ⊢
    rw [e1, e2]
    dsimp only
    cases hb : w.testBit (c / 10)
    · exact this
    · simp only [if_true]
      omega
