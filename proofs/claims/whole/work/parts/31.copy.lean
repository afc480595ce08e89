/-! a floor copied; rows copied by loops; a floor made -/
def cy (I : MI) (sa da N : Nat) : MI := fun b => if b = da then va_cpy (I sa) (I da) 0 0 N else I b
theorem cy_o {I : MI} {sa da N b : Nat} (h : b ≠ da) : cy I sa da N b = I b := if_neg h
theorem cy_s {I : MI} {sa da N j : Nat} (h : j < N) : cy I sa da N da j = I sa j := by
  unfold cy
  rw [if_pos rfl]
  exact sb_cpy0 h
theorem cy_e {I : MI} {sa da N : Nat} {n : Int32} (hn : n = nI N) (hN : N < 2 ^ 31) : cpy N N I sa 0 da 0 n = some (cy I sa da N) := by
  have h0 : (0 : Int32).toNatClampNeg = 0 := by decide
  unfold cpy
  rw [if_neg, h0, hn, nI_clamp hN]
  · rfl
  · rw [h0, hn, nI_clamp hN]
    have := nI_pos hN
    have h1 : ¬ (0 : Int32) < 0 := by decide
    simp [h1, this]
theorem ls_lt {l : List Nat} {k c : Nat} (h : l[k]? = some c) : k < l.length := (List.getElem?_eq_some_iff.mp h).1
set_option maxHeartbeats 4000000 in
theorem cp_s {ni d s : Nat} {I : MI} {A : Fl} (h : CF ni I s A) (hd : d + 10 ≤ s ∨ s + 10 ≤ d) (hi : ni ≤ 10) (hB : flT A + (flB A).length ≤ 864) (hD : (flD A).length ≤ 864) (hC : (flC A).length ≤ 16) : Ok (f_X0_copyFrom d s I) (fun I' => CF ni I' d A ∧ ∀ a, a < d ∨ d + 10 ≤ a → I' a = I a) := by
  unfold f_X0_copyFrom
  refine ok_bs (cy_e rfl (by omega)) (ok_bs (cy_e rfl (by omega)) (ok_bs (cy_e rfl (by omega)) (ok_bs (cy_e rfl (by omega)) (ok_bs (cy_e rfl (by omega)) (ok_bs (cy_e rfl (by omega)) (ok_bs (cy_e rfl (by omega)) (ok_wf (ok_bs (cy_e rfl (by omega)) (ok_wf (ok_wf (ok_bs (cy_e rfl (by omega)) (ok_wf (ok_some ?_)))))))))))))
  obtain ⟨h1, h2, h3, h4, h5, h6, ⟨h7, h8, h9⟩, ⟨h10, h11⟩, h12, h13⟩ := h
  refine ⟨⟨fun i hi2 => ?_, fun o ho => ?_, fun o ho => ?_, fun o ho => ?_, fun o ho => ?_, fun o ho => ?_, ⟨?_, ?_, fun k c hk => ?_⟩, ⟨?_, fun k c hk => ?_⟩, ?_, fun k c hk => ?_⟩, fun a ha => ?_⟩
  · rw [← h1 i hi2]
    simp (disch := omega) only [mst_row, cy_o, cy_s]
  · rw [← h2 o ho]
    simp (disch := omega) only [mst_row, cy_o, cy_s]
  · rw [← h3 o ho]
    simp (disch := omega) only [mst_row, cy_o, cy_s]
  · rw [← h4 o ho]
    simp (disch := omega) only [mst_row, cy_o, cy_s]
  · rw [← h5 o ho]
    simp (disch := omega) only [mst_row, cy_o, cy_s]
  · rw [← h6 o ho]
    simp (disch := omega) only [mst_row, cy_o, cy_s]
  · rw [← h7]
    simp (disch := omega) only [mst_row, cy_o, mst_ne, mst_self]
  · rw [← h8]
    simp (disch := omega) only [mst_row, cy_o, mst_ne, mst_self]
  · have := ls_lt hk
    rw [← h9 k c hk]
    simp (disch := omega) only [mst_row, cy_o, cy_s]
  · rw [← h10]
    simp (disch := omega) only [mst_row, cy_o, mst_ne, mst_self]
  · have := ls_lt hk
    rw [← h11 k c hk]
    simp (disch := omega) only [mst_row, cy_o, cy_s]
  · rw [← h12]
    simp (disch := omega) only [mst_row, cy_o, mst_ne, mst_self]
  · have := ls_lt hk
    rw [← h13 k c hk]
    simp (disch := omega) only [mst_row, cy_o, cy_s]
  · simp (disch := omega) only [mst_row, cy_o]
/-- one row of the memory new -/
def sr (K : MI) (a : Nat) (R : Nat → Int32) : MI := fun b => if b = a then R else K b
theorem sr_s {K : MI} {a : Nat} {R : Nat → Int32} : sr K a R a = R := if_pos rfl
theorem sr_o {K : MI} {a b : Nat} {R : Nat → Int32} (h : b ≠ a) : sr K a R b = K b := if_neg h
theorem sr_m {K : MI} {a k : Nat} {R : Nat → Int32} {v : Int32} : mst (sr K a R) a k v = sr K a (pu R k v) := by
  funext b
  by_cases h : b = a
  · subst h
    rw [ms_r, sr_s, sr_s]
  · rw [mst_row _ _ _ h, sr_o h, sr_o h]
def ffl (R : Nat → Int32) (off : Nat) (n : Nat) (g : Nat → Int32) : Nat → Int32 := fun j => if off ≤ j ∧ j < off + n then g (j - off) else R j
theorem ffl_0 {R : Nat → Int32} {off : Nat} {g : Nat → Int32} : ffl R off 0 g = R := by
  funext j
  unfold ffl
  rw [if_neg (by omega)]
theorem ffl_n {R : Nat → Int32} {off k : Nat} {g : Nat → Int32} : pu (ffl R off k g) (off + k) (g k) = ffl R off (k + 1) g := by
  funext j
  unfold pu ffl
  by_cases h : j = off + k
  · rw [if_pos h, if_pos (by omega), h]
    congr 1
    omega
  · rw [if_neg h]
    by_cases h2 : off ≤ j ∧ j < off + k
    · rw [if_pos h2, if_pos (by omega)]
    · rw [if_neg h2, if_neg (by omega)]
theorem ffl_i {R : Nat → Int32} {off n k : Nat} {g : Nat → Int32} (h : k < n) : ffl R off n g (off + k) = g k := by
  unfold ffl
  rw [if_pos (by omega)]
  congr 1
  omega
theorem ffl_o {R : Nat → Int32} {off n j : Nat} {g : Nat → Int32} (h : j < off ∨ off + n ≤ j) : ffl R off n g j = R j := by
  unfold ffl
  rw [if_neg (by omega)]
theorem sr_id {K : MI} {a : Nat} : sr K a (K a) = K := by
  funext b
  unfold sr
  split
  · rename_i h; rw [h]
  · rfl
/-- a loop that lays n places of a row -/
theorem lp_cp {b : Int32 × MI → Option ((Int32 × MI) ⊕ (Int32 × MI))} {K : MI} (a off n : Nat) (g : Nat → Int32) (hb : ∀ k, k < n → b (nI k, sr K a (ffl (K a) off k g)) = some (.inl (nI k + 1, mst (sr K a (ffl (K a) off k g)) a (off + k) (g k)))) (he : ∀ K', b (nI n, K') = some (.inr (nI n, K'))) : lp b (0, K) = some (nI n, sr K a (ffl (K a) off n g)) := by
  have e0 : ((0 : Int32), K) = (fun k => (nI k, sr K a (ffl (K a) off k g))) 0 := by
    show ((0 : Int32), K) = (nI 0, sr K a (ffl (K a) off 0 g))
    rw [ffl_0, sr_id]
    rfl
  rw [e0]
  refine lp_fs (fun k => (nI k, sr K a (ffl (K a) off k g))) n (fun k hk => ?_) (he _)
  rw [hb k hk, sr_m, ffl_n, nI_1]
/-- the reference's row, place by place -/
theorem MF.cg {ni : Nat} {S S' : Nat → Int32} {A : Fl} (h : MF ni S A) (e : ∀ k, k < 2117 → S' k = S k) (hi : ni ≤ 10) (hB : (flB A).length ≤ 864) (hD : (flD A).length ≤ 864) (hC : (flC A).length ≤ 16) : MF ni S' A := by
  obtain ⟨h1, h2, h3, h4, h5, h6, ⟨h7, h8⟩, ⟨h9, h10⟩, h11, h12⟩ := h
  refine ⟨fun i hi2 => (e _ (by omega)).trans (h1 i hi2), fun o ho => (e _ (by omega)).trans (h2 o ho), fun o ho => (e _ (by omega)).trans (h3 o ho), fun o ho => (e _ (by omega)).trans (h4 o ho), fun o ho => (e _ (by omega)).trans (h5 o ho), fun o ho => (e _ (by omega)).trans (h6 o ho), ⟨(e _ (by omega)).trans h7, fun k c hk => ?_⟩, ⟨(e _ (by omega)).trans h9, fun k c hk => ?_⟩, (e _ (by omega)).trans h11, fun k c hk => ?_⟩
  · have := ls_lt hk
    exact (e _ (by omega)).trans (h8 k c hk)
  · have := ls_lt hk
    exact (e _ (by omega)).trans (h10 k c hk)
  · have := ls_lt hk
    exact (e _ (by omega)).trans (h12 k c hk)
/-! shapes -/
def oL (z : Sh) (a c : Nat) (L : List (Nat × Nat × Nat × Nat)) : Prop := (a ∈ zL z ∧ zK z a = c) ∧ ∀ q ∈ L, (a + q.2.1) ∈ zL z ∧ zK z (a + q.2.1) = q.2.2.1 ∧ zn z (a + q.2.1) = q.2.2.2 ∧ zR z a q.1 = some (a + q.2.1)
def Ext (a : Nat) (z z' : Sh) : Prop := ∀ b, b < a → (b ∈ zL z → b ∈ zL z') ∧ zK z' b = zK z b ∧ zn z' b = zn z b ∧ zR z' b = zR z b
theorem Ext.rf {a : Nat} {z : Sh} : Ext a z z := fun _ _ => ⟨id, rfl, rfl, rfl⟩
theorem Ext.tr {a : Nat} {z z' z'' : Sh} (h : Ext a z z') (h' : Ext a z' z'') : Ext a z z'' := fun b hb => ⟨fun q => (h' b hb).1 ((h b hb).1 q), (h' b hb).2.1.trans (h b hb).2.1, (h' b hb).2.2.1.trans (h b hb).2.2.1, (h' b hb).2.2.2.trans (h b hb).2.2.2⟩
theorem Ext.le {a a' : Nat} {z z' : Sh} (h : Ext a z z') (hl : a' ≤ a) : Ext a' z z' := fun b hb => h b (by omega)
theorem Ext.nw {a : Nat} {z : Sh} (c : Nat) (h : a ≤ zs z) : Ext a z (zNw z c) := fun b hb => ⟨fun q => List.mem_append_left _ q, va_up_ne _ _ (by omega), rfl, if_neg (by omega)⟩
theorem Ext.na {a : Nat} {z : Sh} (c n : Nat) (h : a ≤ zs z) : Ext a z (zNa z c n) := fun b hb => ⟨fun q => List.mem_append_left _ q, va_up_ne _ _ (by omega), va_up_ne _ _ (by omega), if_neg (by omega)⟩
theorem Ext.st {a b k : Nat} {z : Sh} {v : Option Nat} (h : a ≤ b) : Ext a z (zSt z b k v) := fun c hc => ⟨id, rfl, rfl, mst_row _ _ _ (by omega)⟩
theorem oL.ext {z z' : Sh} {a c b : Nat} {L : List (Nat × Nat × Nat × Nat)} (h : oL z a c L) (e : Ext b z z') (ha : a < b) (hL : ∀ q ∈ L, a + q.2.1 < b) : oL z' a c L := by
  refine ⟨⟨(e a ha).1 h.1.1, (e a ha).2.1.trans h.1.2⟩, fun q hq => ?_⟩
  obtain ⟨h1, h2, h3, h4⟩ := h.2 q hq
  have e1 := e _ (hL q hq)
  exact ⟨e1.1 h1, e1.2.1.trans h2, e1.2.2.1.trans h3, by rw [(e a ha).2.2.2]; exact h4⟩
theorem lay_0 : ∀ q ∈ lay0, q.2.1 < 10 := by decide
theorem oX0.ext {z z' : Sh} {a b : Nat} (h : oX0 z a) (e : Ext b z z') (ha : a + 10 ≤ b) : oX0 z' a := oL.ext (L := lay0) h e (by omega) (fun q hq => Nat.lt_of_lt_of_le (Nat.add_lt_add_left (lay_0 q hq) a) ha)
theorem lay_1 : ∀ q ∈ lay1, q.2.1 < 9 := by decide
theorem oX1.ext {z z' : Sh} {a b : Nat} (h : oX1 z a) (e : Ext b z z') (ha : a + 9 ≤ b) : oX1 z' a := oL.ext (L := lay1) h e (by omega) (fun q hq => Nat.lt_of_lt_of_le (Nat.add_lt_add_left (lay_1 q hq) a) ha)
theorem lay_3 : ∀ q ∈ lay3, q.2.1 < 10 := by decide
theorem oX3.ext {z z' : Sh} {a b : Nat} (h : oX3 z a) (e : Ext b z z') (ha : a + 10 ≤ b) : oX3 z' a := oL.ext (L := lay3) h e (by omega) (fun q hq => Nat.lt_of_lt_of_le (Nat.add_lt_add_left (lay_3 q hq) a) ha)
theorem lay_5 : ∀ q ∈ lay5, q.2.1 < 23 := by decide
theorem oX5.ext {z z' : Sh} {a b : Nat} (h : oX5 z a) (e : Ext b z z') (ha : a + 23 ≤ b) : oX5 z' a := oL.ext (L := lay5) h e (by omega) (fun q hq => Nat.lt_of_lt_of_le (Nat.add_lt_add_left (lay_5 q hq) a) ha)
theorem oX4.ext {z z' : Sh} {a t u b : Nat} (h : oX4 z a t u) (e : Ext b z z') (ha : a + 46 ≤ b) (ht : t + 10 ≤ b) (hu : u + 10 ≤ b) : oX4 z' a t u := by
  obtain ⟨h1, h2, h3, h4, h5, h6, h7, h8, h9, h10⟩ := h
  have e0 := e a (by omega)
  have r : zR z' a = zR z a := e0.2.2.2
  refine ⟨⟨e0.1 h1.1, e0.2.1.trans h1.2⟩, ⟨(e _ (by omega)).1 h2.1, (e _ (by omega)).2.1.trans h2.2.1, (e _ (by omega)).2.2.1.trans h2.2.2.1, by rw [r]; exact h2.2.2.2⟩, ⟨(e _ (by omega)).1 h3.1, (e _ (by omega)).2.1.trans h3.2.1, by rw [r]; exact h3.2.2⟩, ⟨h4.1.ext e ht, by rw [r]; exact h4.2⟩, ⟨h5.1.ext e hu, by rw [r]; exact h5.2⟩, ⟨h6.1.ext e (by omega), by rw [r]; exact h6.2⟩, ⟨h7.1.ext e (by omega), by rw [r]; exact h7.2⟩, ⟨(e _ (by omega)).1 h8.1, (e _ (by omega)).2.1.trans h8.2.1, (e _ (by omega)).2.2.1.trans h8.2.2.1, by rw [r]; exact h8.2.2.2⟩, ⟨(e _ (by omega)).1 h9.1, (e _ (by omega)).2.1.trans h9.2.1, (e _ (by omega)).2.2.1.trans h9.2.2.1, by rw [r]; exact h9.2.2.2⟩, ⟨(e _ (by omega)).1 h10.1, (e _ (by omega)).2.1.trans h10.2.1, (e _ (by omega)).2.2.1.trans h10.2.2.1, by rw [r]; exact h10.2.2.2⟩⟩
/-- an object under way: its rows so far -/
def Lay (z : Sh) (a c r : Nat) (L : List (Nat × Nat × Nat × Nat)) : Prop := zs z = a + r ∧ 1 ≤ r ∧ oL z a c L ∧ ∀ q ∈ L, 1 ≤ q.2.1 ∧ q.2.1 < r
theorem Lay.add {z : Sh} {a c r : Nat} {L : List (Nat × Nat × Nat × Nat)} (h : Lay z a c r L) (k kd n : Nat) (hk : ∀ q ∈ L, q.1 ≠ k) : Lay (zSt (zNa z kd n) a k (some (zs z))) a c (r + 1) (L ++ [(k, r, kd, n)]) := by
  obtain ⟨h1, h2, h3, h4⟩ := h
  refine ⟨by show zs z + 1 = _; omega, by omega, ⟨⟨List.mem_append_left _ h3.1.1, (va_up_ne _ _ (by omega)).trans h3.1.2⟩, fun q hq => ?_⟩, fun q hq => ?_⟩
  · rcases List.mem_append.mp hq with hq | hq
    · obtain ⟨a1, a2, a3, a4⟩ := h3.2 q hq
      have h5 := h4 q hq
      refine ⟨List.mem_append_left _ a1, (va_up_ne _ _ (by omega)).trans a2, (va_up_ne _ _ (by omega)).trans a3, ?_⟩
      show mst (zR (zNa z kd n)) a k (some (zs z)) a q.1 = _
      rw [mst_ne _ _ (Or.inr (hk q hq))]
      show (if a = zs z then fun _ => none else zR z a) q.1 = _
      rw [if_neg (by omega)]
      exact a4
    · obtain rfl := List.mem_singleton.mp hq
      refine ⟨List.mem_append_right _ (List.mem_singleton.mpr h1.symm), ?_, ?_, ?_⟩
      · show va_up (zK z) (zs z) kd (a + r) = kd
        rw [← h1]
        exact va_up_self _ _ _
      · show va_up (zn z) (zs z) n (a + r) = n
        rw [← h1]
        exact va_up_self _ _ _
      · show mst (zR (zNa z kd n)) a k (some (zs z)) a k = some (a + r)
        rw [mst_self, h1]
  · rcases List.mem_append.mp hq with hq | hq
    · have := h4 q hq
      omega
    · obtain rfl := List.mem_singleton.mp hq
      dsimp only
      omega
theorem Lay.new {z : Sh} (c : Nat) : Lay (zNw z c) (zs z) c 1 [] := ⟨rfl, Nat.le_refl _, ⟨⟨(raw.new c).1, (raw.new c).2.1⟩, fun q hq => nomatch hq⟩, fun q hq => nomatch hq⟩
theorem fl_s {a n : Nat} {v : Int32} {I : MI} (hn : n < 2 ^ 31) : f_J7_fill_53178 a n v I = some (sr I a (ffl (I a) 0 n (fun _ => v))) := by
  unfold f_J7_fill_53178
  refine bnd_s (lp_cp a 0 n (fun _ => v) (fun k hk => ?_) (fun K' => ?_)) rfl
  · refine it_p (nI_lt hk hn) (bnd_s (wr_k k rfl hk hn) ?_)
    rw [Nat.zero_add]
  · exact it_n (nI_nlt (Nat.le_refl _) hn) rfl
