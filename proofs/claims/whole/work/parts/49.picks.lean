/-! picks -/
def wn (T : Tx) (w i : Nat) : Nat → Nat
  | 0 => 0
  | k + 1 => wn T w i k + (if w.testBit k then tiN T (10 * k + i) else 0)
def un (T : Tx) (A : Fl) (w i : Nat) : Nat := min (wn T w i (tiO T)) (flS A i)
def plt (f : Nat → Nat) (a b : Nat) : Prop := f a < f b ∨ f a = f b ∧ a < b
def Pk (T : Tx) (A : Fl) (w : Nat) (l : List Nat) : Prop := l.Pairwise (plt (tiP T)) ∧ ∀ i, i ∈ l ↔ i < tiI T ∧ 0 < un T A w i
theorem wn_le {T : Tx} (hT : GT T) {w i : Nat} (hi : i < 10) : ∀ k, k ≤ 16 → wn T w i k ≤ 9 * k := by
  intro k
  induction k with
  | zero => intro _; exact Nat.le_refl _
  | succ k ih =>
    intro hk
    have h1 := ih (by omega)
    have h2 := (hT.2.2.2.2.2.2.2.1 (10 * k + i) (by omega)).1
    rw [wn]
    split <;> omega
theorem nd_len : ∀ (n : Nat) (l : List Nat), l.Nodup → (∀ i, i ∈ l → i < n) → l.length ≤ n := by
  intro n
  induction n with
  | zero =>
    intro l _ h
    cases l with
    | nil => exact Nat.le_refl _
    | cons a l => exact absurd (h a (List.mem_cons_self ..)) (by omega)
  | succ n ih =>
    intro l hn h
    by_cases hm : n ∈ l
    · have h1 := List.length_erase_of_mem hm
      have h2 := ih (l.erase n) (hn.erase n) (fun i hi => by
        have h3 := (hn.mem_erase_iff).mp hi
        have := h i h3.2
        have := h3.1
        omega)
      omega
    · have := ih l hn (fun i hi => by
        have := h i hi
        have : i ≠ n := fun q => hm (q ▸ hi)
        omega)
      omega
theorem pw_nd {f : Nat → Nat} {l : List Nat} (h : l.Pairwise (plt f)) : l.Nodup := h.imp (fun {a b} hab q => by
  unfold plt at hab
  subst q
  omega)
theorem pw_uq {f : Nat → Nat} : ∀ (l l' : List Nat), l.Pairwise (plt f) → l'.Pairwise (plt f) → (∀ i, i ∈ l ↔ i ∈ l') → l = l' := by
  intro l
  induction l with
  | nil =>
    intro l' _ _ h
    cases l' with
    | nil => rfl
    | cons b l' => exact absurd ((h b).mpr (List.mem_cons_self ..)) (by simp)
  | cons a l ih =>
    intro l' h1 h2 h
    cases l' with
    | nil => exact absurd ((h a).mp (List.mem_cons_self ..)) (by simp)
    | cons b l' =>
      obtain ⟨h1a, h1b⟩ := List.pairwise_cons.mp h1
      obtain ⟨h2a, h2b⟩ := List.pairwise_cons.mp h2
      have hab : a = b := by
        refine Classical.byContradiction (fun q => ?_)
        have m1 : a ∈ l' := (List.mem_cons.mp ((h a).mp (List.mem_cons_self ..))).resolve_left q
        have m2 : b ∈ l := (List.mem_cons.mp ((h b).mpr (List.mem_cons_self ..))).resolve_left (fun w => q w.symm)
        have r1 := h1a b m2
        have r2 := h2a a m1
        unfold plt at r1 r2
        omega
      subst hab
      rw [ih l' h1b h2b (fun i => ⟨fun hi => ?_, fun hi => ?_⟩)]
      · have hne : i ≠ a := fun q => by
          have := h1a i hi
          unfold plt at this
          subst q
          omega
        exact (List.mem_cons.mp ((h i).mp (List.mem_cons_of_mem _ hi))).resolve_left hne
      · have hne : i ≠ a := fun q => by
          have := h2a i hi
          unfold plt at this
          subst q
          omega
        exact (List.mem_cons.mp ((h i).mpr (List.mem_cons_of_mem _ hi))).resolve_left hne
theorem Pk.len {T : Tx} {A : Fl} {w : Nat} {l : List Nat} (h : Pk T A w l) : l.length ≤ tiI T := nd_len _ l (pw_nd h.1) (fun i hi => ((h.2 i).mp hi).1)
theorem ins_get {l : List Nat} {n x k c : Nat} (hn : n ≤ l.length) (h : (l.take n ++ x :: l.drop n)[k]? = some c) : (k < n ∧ l[k]? = some c) ∨ (k = n ∧ c = x) ∨ (n < k ∧ l[k - 1]? = some c) := by
  have hl : (l.take n).length = n := by rw [List.length_take]; omega
  by_cases hk : k < n
  · rw [List.getElem?_append_left (by omega), List.getElem?_take_of_lt hk] at h
    exact Or.inl ⟨hk, h⟩
  · rw [List.getElem?_append_right (by omega), hl] at h
    by_cases e : k = n
    · rw [e, Nat.sub_self, List.getElem?_cons_zero] at h
      exact Or.inr (Or.inl ⟨e, (Option.some.inj h).symm⟩)
    · rw [show k - n = (k - n - 1) + 1 by omega, List.getElem?_cons_succ, List.getElem?_drop, show n + (k - n - 1) = k - 1 by omega] at h
      exact Or.inr (Or.inr ⟨by omega, h⟩)
theorem ins_pw {f : Nat → Nat} {l : List Nat} {n x : Nat} (hp : l.Pairwise (plt f)) (hn : n ≤ l.length) (h1 : ∀ k c, n ≤ k → l[k]? = some c → f x < f c) (h2 : n = 0 ∨ ∃ c, l[n - 1]? = some c ∧ f c ≤ f x) (hx : ∀ a, a ∈ l → f a = f x → a < x) : (l.take n ++ x :: l.drop n).Pairwise (plt f) ∧ (∀ i, i ∈ (l.take n ++ x :: l.drop n) ↔ i ∈ l ∨ i = x) ∧ (l.take n ++ x :: l.drop n).length = l.length + 1 := by
  have htd : l.take n ++ l.drop n = l := List.take_append_drop n l
  have hpp := hp
  rw [← htd] at hpp
  obtain ⟨p1, p2, p3⟩ := List.pairwise_append.mp hpp
  have ht : ∀ a, a ∈ l.take n → plt f a x := by
    intro a ha
    obtain ⟨k, hk⟩ := List.getElem?_of_mem ha
    have hkl := (List.getElem?_eq_some_iff.mp hk).1
    rw [List.length_take] at hkl
    rw [List.getElem?_take_of_lt (by omega)] at hk
    have hal : a ∈ l := List.mem_of_getElem? hk
    rcases h2 with q | ⟨c, hc, hcx⟩
    · omega
    · have hle : f a ≤ f c := by
        by_cases e : k = n - 1
        · rw [e] at hk
          rw [hk] at hc
          rw [Option.some.inj hc]
          exact Nat.le_refl _
        · have hkk := List.getElem?_eq_some_iff.mp hk
          have hcc := List.getElem?_eq_some_iff.mp hc
          have := List.pairwise_iff_getElem.mp hp k (n - 1) hkk.1 hcc.1 (by omega)
          rw [hkk.2, hcc.2] at this
          unfold plt at this
          omega
      have := hx a hal
      unfold plt
      omega
  have hdr : ∀ b, b ∈ l.drop n → f x < f b := by
    intro b hb
    obtain ⟨k, hk⟩ := List.getElem?_of_mem hb
    rw [List.getElem?_drop] at hk
    exact h1 _ b (by omega) hk
  refine ⟨List.pairwise_append.mpr ⟨p1, List.pairwise_cons.mpr ⟨fun b hb => Or.inl (hdr b hb), p2⟩, fun a ha b hb => ?_⟩, fun i => ?_, ?_⟩
  · rcases List.mem_cons.mp hb with q | q
    · rw [q]; exact ht a ha
    · exact p3 a ha b q
  · rw [List.mem_append, List.mem_cons]
    constructor
    · rintro (q | q | q)
      · exact Or.inl (List.mem_of_mem_take q)
      · exact Or.inr q
      · exact Or.inl (List.mem_of_mem_drop q)
    · rintro (q | q)
      · rw [← htd, List.mem_append] at q
        rcases q with q | q
        · exact Or.inl q
        · exact Or.inr (Or.inr q)
      · exact Or.inr (Or.inl q)
  · rw [List.length_append, List.length_cons, List.length_take, List.length_drop]
    omega
theorem nf_c {I : MI} {p t w i : Nat} {T : Tx} (hT : CT I t T) (hg : GT T) (hw : I p 0 = nI w) (h16 : w < 65536) (hi : i < 10) : f_X1_needOf p t (nI i) I = some (nI (wn T w i (tiO T))) := by
  have hO := hg.2.1
  unfold f_X1_needOf
  refine bnd_s (lp_fs (fun k => (nI (wn T w i k), nI k)) (tiO T) (r := (nI (wn T w i (tiO T)), nI (tiO T))) (fun k hk => ?_) ?_) rfl
  · refine it_p (by rw [hT.1.2.1]; exact nI_lt hk (by omega)) ?_
    rw [hw]
    refine bnd_s (hb_s h16 (by omega)) ?_
    dsimp only
    rw [wn]
    cases hb : w.testBit k
    · refine bnd_s (it_p (by simp) rfl) ?_
      rw [nI_1]
      rfl
    · refine bnd_s (it_n (by simp) (bnd_s (show f_X4_cell (nI k) (nI i) = some (nI (10 * k + i)) from congrArg some (ci_c _ _)) (bnd_s (rd_v _ rfl (by omega) (by omega) (hT.2.2.2.1 (10 * k + i) (by omega))) rfl))) ?_
      rw [nI_1, nI_add]
      rfl
  · exact it_n (by rw [hT.1.2.1]; exact nI_nlt (Nat.le_refl _) (by omega)) rfl
theorem nf_m {K : MI} {m w i : Nat} {T : Tx} (hT : MT K m T) (hg : GT T) (h16 : w < 65536) (hi : i < 10) : lp (b_X5_laysPicks_44 m (nI w) (nI i) K) (0, 0) = some (nI (wn T w i (tiO T)), nI (tiO T)) := by
  have hO := hg.2.1
  refine lp_fs (fun k => (nI (wn T w i k), nI k)) (tiO T) (r := (nI (wn T w i (tiO T)), nI (tiO T))) (fun k hk => ?_) ?_
  · refine bnd_s (rd_v 0 rfl (by omega) (by omega) hT.1.2.1) (it_p (nI_lt hk (by omega)) ?_)
    dsimp only
    rw [b_is (by omega) (by omega), wn]
    cases hb : w.testBit k
    · refine bnd_s (it_n (by decide) rfl) ?_
      rw [nI_1, show nI (wn T w i k) + 0 = nI (wn T w i k) from nI_add _ 0]
      rfl
    · refine bnd_s (it_p rfl (bnd_s (rd_v _ (ci_m k i) (by omega) (by omega) (hT.2.2.2 (10 * k + i) (by omega))) rfl)) ?_
      rw [nI_1, nI_add]
      rfl
  · exact bnd_s (rd_v 0 rfl (by omega) (by omega) hT.1.2.1) (it_n (nI_nlt (Nat.le_refl _) (by omega)) rfl)
/-- the class puts a pick among the picks -/
theorem ap_c {I : MI} {p t x v : Nat} {T : Tx} {l : List Nat} {g : Nat → Nat} (hT : CT I t T) (hg : GT T) (hd : t + 10 ≤ p ∨ p + 9 ≤ t) (hl : l.length ≤ 9) (hlt : ∀ a, a ∈ l → a < x) (hx : x < tiI T) (h1 : I p 1 = nI l.length) (h2 : lsr (I (p + 1)) 0 l) (h3 : lsr (I (p + 2)) 0 (l.map g)) (hpw : l.Pairwise (plt (tiP T))) (hv : g x = v) : Ok (f_X1_addPick p t (nI x) (nI v) I) (fun I' => ∃ l', l'.length = l.length + 1 ∧ l'.Pairwise (plt (tiP T)) ∧ (∀ i, i ∈ l' ↔ i ∈ l ∨ i = x) ∧ I' p 1 = nI l'.length ∧ lsr (I' (p + 1)) 0 l' ∧ lsr (I' (p + 2)) 0 (l'.map g) ∧ I' p 0 = I p 0 ∧ ∀ a, a ≠ p → a ≠ p + 1 → a ≠ p + 2 → I' a = I a) := by
  have hI := hg.1
  unfold f_X1_addPick
  rw [h1]
  refine ok_bind (P := fun s : Int32 × MI => ∃ n, n ≤ l.length ∧ s.1 = nI n ∧ (∀ k c, k < n → l[k]? = some c → s.2 (p + 1) k = nI c ∧ s.2 (p + 2) k = nI (g c)) ∧ (∀ k c, n ≤ k → l[k]? = some c → s.2 (p + 1) (k + 1) = nI c ∧ s.2 (p + 2) (k + 1) = nI (g c) ∧ tiP T x < tiP T c) ∧ (∀ a, a ≠ p + 1 → a ≠ p + 2 → s.2 a = I a) ∧ (n = 0 ∨ ∃ c, l[n - 1]? = some c ∧ tiP T c ≤ tiP T x)) (ok_lp (fun n s => n ≤ l.length ∧ s.1 = nI n ∧ (∀ k c, k < n → l[k]? = some c → s.2 (p + 1) k = nI c ∧ s.2 (p + 2) k = nI (g c)) ∧ (∀ k c, n ≤ k → l[k]? = some c → s.2 (p + 1) (k + 1) = nI c ∧ s.2 (p + 2) (k + 1) = nI (g c) ∧ tiP T x < tiP T c) ∧ (∀ a, a ≠ p + 1 → a ≠ p + 2 → s.2 a = I a)) (fun n s hs => ?_) l.length (nI l.length, I) ⟨Nat.le_refl _, rfl, fun k c hk hc => ⟨?_, ?_⟩, fun k c hk hc => ?_, fun _ _ _ => rfl⟩) (fun s hs => ?_)
  · obtain ⟨s1, I'⟩ := s
    obtain ⟨hn, rfl, i1, i2, i3⟩ := hs
    dsimp only at hn i1 i2 i3
    show Ok (b_X1_addPick_6 p t (nI x) (nI n, I')) _
    by_cases hn0 : n = 0
    · subst hn0
      exact ok_neg (by show ¬ (0 : Int32) < 0; decide) (ok_some ⟨0, Nat.zero_le _, rfl, i1, i2, i3, Or.inl rfl⟩)
    · obtain ⟨c, hc⟩ := ls_get (l := l) (j := n - 1) (by omega)
      have hcx := hlt c (List.mem_of_getElem? hc)
      have pc := hg.2.2.2.2.2.1 c (by omega)
      have px := hg.2.2.2.2.2.1 x hx
      have cT' : CT I' t T := hT.fr (fun r hr => i3 _ (by omega) (by omega))
      have hm : nI n - 1 = nI (n - 1) := m1_p hn0
      have e1 := (i1 (n - 1) c (by omega) hc).1
      have e2 := (i1 (n - 1) c (by omega) hc).2
      refine ok_pos ((nI_p0 (by omega)).mpr (by omega)) (ok_bs (rd_v (n - 1) hm (by omega) (by omega) e1) (ok_bs (rd_v c rfl (by omega) (by omega) (cT'.2.1 c (by omega))) (ok_bs (rd_v x rfl (by omega) (by omega) (cT'.2.1 x hx)) ?_)))
      by_cases hlt' : tiP T x < tiP T c
      · refine ok_pos (nI_lt hlt' (by omega)) (ok_bs (rd_v (n - 1) hm (by omega) (by omega) e1) (ok_wr n rfl (by omega) (by omega) (ok_bs (rd_v (v := nI (g c)) (n - 1) hm (by omega) (by omega) ?_) (ok_wr n rfl (by omega) (by omega) (ok_some ⟨n - 1, by omega, by omega, ?_, fun k d hk hd' => ⟨?_, ?_⟩, fun k d hk hd' => ?_, fun a ha hb => ?_⟩)))))
        · rw [mst_row _ _ _ (by omega)]; exact e2
        · show nI n + (-1) = nI (n - 1)
          obtain ⟨j, rfl⟩ : ∃ j, n = j + 1 := ⟨n - 1, by omega⟩
          exact pk_m1 j
        · dsimp only
          rw [mst_row _ _ _ (by omega), mst_ne _ _ (Or.inr (by omega))]
          exact (i1 k d (by omega) hd').1
        · dsimp only
          rw [mst_ne _ _ (Or.inr (by omega)), mst_row _ _ _ (by omega)]
          exact (i1 k d (by omega) hd').2
        · dsimp only
          by_cases e : k = n - 1
          · rw [e] at hd'
            rw [hd'] at hc
            obtain rfl := Option.some.inj hc
            rw [show k + 1 = n by omega]
            refine ⟨?_, ?_, hlt'⟩
            · rw [mst_row _ _ _ (by omega), mst_self]
            · rw [mst_self]
          · obtain ⟨f1, f2, f3⟩ := i2 k d (by omega) hd'
            refine ⟨?_, ?_, f3⟩
            · rw [mst_row _ _ _ (by omega), mst_ne _ _ (Or.inr (by omega))]; exact f1
            · rw [mst_ne _ _ (Or.inr (by omega)), mst_row _ _ _ (by omega)]; exact f2
        · dsimp only
          rw [mst_row _ _ _ hb, mst_row _ _ _ ha]
          exact i3 a ha hb
      · exact ok_neg (nI_nlt (by omega) (by omega)) (ok_some ⟨n, hn, rfl, i1, i2, i3, Or.inr ⟨c, hc, by omega⟩⟩)
  · have := h2 k c hc
    rw [Nat.zero_add] at this
    exact this
  · have := h3 k (g c) (by rw [List.getElem?_map, hc]; rfl)
    rw [Nat.zero_add] at this
    exact this
  · have := ls_lt hc
    omega
  · obtain ⟨s1, I'⟩ := s
    obtain ⟨n, hn, hs1, i1, i2, i3, i4⟩ := hs
    dsimp only at hs1 i1 i2 i3
    subst hs1
    obtain ⟨j1, j2, j3⟩ := ins_pw (x := x) hpw hn (fun k c hk hc => (i2 k c hk hc).2.2) i4 (fun a ha _ => hlt a ha)
    refine ok_wr n rfl (by omega) (by omega) (ok_wr n rfl (by omega) (by omega) (ok_wf (ok_some ⟨l.take n ++ x :: l.drop n, j3, j1, j2, ?_, fun k c hk => ?_, fun k d hk => ?_, ?_, fun a h1 h2 h3 => ?_⟩)))
    · dsimp only
      rw [mst_self, mst_row _ _ _ (by omega), mst_row _ _ _ (by omega), i3 _ (by omega) (by omega), h1, nI_1, j3]
    · dsimp only
      rw [Nat.zero_add, mst_row _ _ _ (by omega), mst_row _ _ _ (by omega)]
      rcases ins_get hn hk with ⟨q1, q2⟩ | ⟨q1, q2⟩ | ⟨q1, q2⟩
      · rw [mst_ne _ _ (Or.inr (by omega))]
        exact (i1 k c q1 q2).1
      · rw [q1, q2, mst_self]
      · rw [mst_ne _ _ (Or.inr (by omega))]
        have := (i2 (k - 1) c (by omega) q2).1
        rw [show k - 1 + 1 = k by omega] at this
        exact this
    · rw [List.getElem?_map] at hk
      cases hkk : (l.take n ++ x :: l.drop n)[k]? with
      | none => rw [hkk] at hk; cases hk
      | some c =>
        rw [hkk] at hk
        obtain rfl := Option.some.inj hk
        dsimp only
        rw [Nat.zero_add, mst_row _ _ _ (by omega)]
        rcases ins_get hn hkk with ⟨q1, q2⟩ | ⟨q1, q2⟩ | ⟨q1, q2⟩
        · rw [mst_ne _ _ (Or.inr (by omega)), mst_row _ _ _ (by omega)]
          exact (i1 k c q1 q2).2
        · rw [q1, q2, mst_self, hv]
        · rw [mst_ne _ _ (Or.inr (by omega)), mst_row _ _ _ (by omega)]
          have := (i2 (k - 1) c (by omega) q2).2.1
          rw [show k - 1 + 1 = k by omega] at this
          exact this
    · dsimp only
      rw [mst_ne _ _ (Or.inr (by omega)), mst_row _ _ _ (by omega), mst_row _ _ _ (by omega), i3 _ (by omega) (by omega)]
    · dsimp only
      rw [mst_row _ _ _ h1, mst_row _ _ _ h3, mst_row _ _ _ h2, i3 _ h2 h3]
