/-! best: the reference -/
def jx (l b : List Nat) (i : Nat) : Nat := nE (fun k => decide (l.getD k 0 = b.getD i 0)) l.length 0
def wj (l b : List Nat) (i : Nat) : Nat := if i < b.length then jx l b i + 1 else 0
/-- l: the picks' items; b: the same by number -/
def LB (l b : List Nat) : Prop := b.length = l.length ∧ l.length ≤ 6 ∧ l.Nodup ∧ b.Pairwise (plt id) ∧ (∀ i, i ∈ b ↔ i ∈ l) ∧ ∀ i, i ∈ l → i < 10
theorem gD {l : List Nat} {k c : Nat} (h : l[k]? = some c) : l.getD k 0 = c := by rw [List.getD_eq_getElem?_getD, h]; rfl
theorem gD_i {l : List Nat} {k : Nat} (h : k < l.length) : l[k]? = some (l.getD k 0) := by
  obtain ⟨c, hc⟩ := ls_get h
  rw [gD hc, hc]
section Perm
variable {l b : List Nat}
theorem LB.inj (h : LB l b) {k k' : Nat} (hk : k < l.length) (hk' : k' < l.length) (e : l.getD k 0 = l.getD k' 0) : k = k' := by
  have h1 := List.getElem?_eq_some_iff.mp (gD_i hk)
  have h2 := List.getElem?_eq_some_iff.mp (gD_i hk')
  have hp := List.pairwise_iff_getElem.mp h.2.2.1
  rcases Nat.lt_trichotomy k k' with q | q | q
  · exact absurd (h1.2.trans (e.trans h2.2.symm)) (hp k k' hk hk' q)
  · exact q
  · exact absurd (h2.2.trans (e.symm.trans h1.2.symm)) (hp k' k hk' hk q)
theorem LB.lt (h : LB l b) {i i' : Nat} (hi : i < i') (hi' : i' < b.length) : b.getD i 0 < b.getD i' 0 := by
  have h1 := List.getElem?_eq_some_iff.mp (gD_i (l := b) (k := i) (by omega))
  have h2 := List.getElem?_eq_some_iff.mp (gD_i hi')
  have hp := List.pairwise_iff_getElem.mp h.2.2.2.1 i i' h1.1 h2.1 hi
  rw [h1.2, h2.2] at hp
  unfold plt id at hp
  omega
theorem LB.j1 (h : LB l b) {i : Nat} (hi : i < b.length) : jx l b i < l.length ∧ l.getD (jx l b i) 0 = b.getD i 0 := by
  obtain ⟨_, n2, n3, n4⟩ := nE_s (p := fun k => decide (l.getD k 0 = b.getD i 0)) l.length 0
  unfold jx
  generalize nE (fun k => decide (l.getD k 0 = b.getD i 0)) l.length 0 = j at n2 n3 n4 ⊢
  have hm : b.getD i 0 ∈ l := (h.2.2.2.2.1 _).mp (List.mem_of_getElem? (gD_i hi))
  obtain ⟨k, hk⟩ := List.getElem?_of_mem hm
  have hkl := ls_lt hk
  have hj : j < l.length := by
    refine Nat.lt_of_not_le (fun q => ?_)
    have := n4 k (by omega) (by omega)
    rw [gD hk] at this
    simp at this
  have := n3 (by omega)
  rw [decide_eq_true_eq] at this
  exact ⟨hj, this⟩
theorem LB.on (h : LB l b) {k : Nat} (hk : k < l.length) : ∃ i, i < b.length ∧ k = jx l b i := by
  have hm : l.getD k 0 ∈ b := (h.2.2.2.2.1 _).mpr (List.mem_of_getElem? (gD_i hk))
  obtain ⟨i, hi⟩ := List.getElem?_of_mem hm
  have hil := ls_lt hi
  refine ⟨i, hil, h.inj hk (h.j1 hil).1 ?_⟩
  rw [(h.j1 hil).2, gD hi]
theorem LB.ij (h : LB l b) {i i' : Nat} (hi : i < b.length) (hi' : i' < b.length) (e : jx l b i = jx l b i') : i = i' := by
  have h1 := (h.j1 hi).2
  have h2 := (h.j1 hi').2
  rw [e, h2] at h1
  rcases Nat.lt_trichotomy i i' with q | q | q
  · have := h.lt q hi'; omega
  · exact q
  · have := h.lt q hi; omega
def paR (l : List Nat) : Nat → Nat → Bool := lxb (fun _ => 0) (fun k => l.getD k 0) (fun _ => 0)
theorem pa_m {K : MI} {m : Nat} {J : MJ} {x1 : Int32} {P : Nat → Bool} (h : LB l b) (h1 : K m 35 = nI l.length) (h2 : lsr (K (m + 18)) 0 l) (hP : ∀ k, k < l.length → (x1 < nI (l.getD k 0) ↔ P k = true)) : f_X5_pickAbove m x1 J K = some (nI (sel P (paR l) l.length) - 1) := by
  have h6 := h.2.1
  unfold f_X5_pickAbove
  refine bnd_s (lp_fs (fun k => (nI (sel P (paR l) k) - 1, nI k)) l.length (r := (nI (sel P (paR l) l.length) - 1, nI l.length)) (fun k hk => ?_) ?_) rfl
  · have rk : ∀ j, j < l.length → rd 10 (K (m + 18)) (nI j) = some (nI (l.getD j 0)) := fun j hj => rd_v j rfl (by omega) (by omega) (by have := h2 j _ (gD_i hj); rw [Nat.zero_add] at this; exact this)
    have h10 : ∀ j, j < l.length → l.getD j 0 < 10 := fun j hj => h.2.2.2.2.2 _ (List.mem_of_getElem? (gD_i hj))
    have hl := sel_le (P := P) (R := paR l) k
    refine it_p (by rw [h1]; exact nI_lt hk (by omega)) (bnd_s (rk k hk) ?_)
    refine bnd_s (a := nI (sel P (paR l) (k + 1)) - 1) ?_ (by dsimp only; rw [nI_1])
    rw [sel]
    dsimp only
    generalize sel P (paR l) k = r at hl ⊢
    by_cases hp : P k = true
    · refine it_p ((hP k hk).mpr hp) ?_
      rw [hp, Bool.true_and]
      by_cases h0 : r = 0
      · refine it_p ((m1_l (by omega)).mpr h0) ?_
        rw [if_pos (by simp [h0]), nI_pred]
      · refine it_n (fun q => h0 ((m1_l (by omega)).mp q)) (bnd_s (rk k hk) ?_)
        rw [m1_p h0]
        refine bnd_s (rk (r - 1) (by omega)) ?_
        have a1 := h10 k hk
        have a2 := h10 (r - 1) (by omega)
        have hne : l.getD k 0 ≠ l.getD (r - 1) 0 := fun q => by have := h.inj hk (show r - 1 < l.length by omega) q; omega
        by_cases hlt : l.getD k 0 < l.getD (r - 1) 0
        · refine it_p (nI_lt hlt (by omega)) ?_
          rw [if_pos, nI_pred]
          rw [Bool.or_eq_true]
          right
          unfold paR
          rw [lxb_i]
          omega
        · refine it_n (nI_nlt (by omega) (by omega)) ?_
          rw [if_neg, m1_p h0]
          rw [Bool.or_eq_true, decide_eq_true_eq]
          unfold paR
          rw [lxb_i]
          omega
    · refine it_n (fun q => hp ((hP k hk).mp q)) ?_
      rw [if_neg (by simp [hp])]
  · exact it_n (by rw [h1]; exact nI_nlt (Nat.le_refl _) (by omega)) rfl
theorem pa_w {P : Nat → Bool} {e0 : Nat} (h : LB l b) (hP : ∀ i, i < b.length → (P (jx l b i) = true ↔ e0 ≤ i)) : sel P (paR l) l.length = wj l b e0 := by
  refine (sel_bst (lxb_s _ _ _) l.length).uq (lxb_s _ _ _) ?_
  unfold wj
  by_cases he : e0 < b.length
  · rw [if_pos he]
    refine Or.inr ⟨by omega, ⟨by have := (h.j1 he).1; omega, (hP e0 he).mpr (Nat.le_refl _)⟩, fun q hq hne => ?_⟩
    rw [Nat.add_sub_cancel] at hne ⊢
    obtain ⟨i, hi, rfl⟩ := h.on hq.1
    have hle := (hP i hi).mp hq.2
    have hie : i ≠ e0 := fun r => hne (by rw [r])
    have := h.lt (show e0 < i by omega) hi
    show paR l _ _ = true
    unfold paR
    rw [lxb_i, (h.j1 he).2, (h.j1 hi).2]
    omega
  · rw [if_neg he]
    refine Or.inl ⟨rfl, fun q hq => ?_⟩
    obtain ⟨i, hi, rfl⟩ := h.on hq.1
    have := (hP i hi).mp hq.2
    omega
theorem pa_0 {K : MI} {m : Nat} {J : MJ} (h : LB l b) (h1 : K m 35 = nI l.length) (h2 : lsr (K (m + 18)) 0 l) : f_X5_pickAbove m (-1) J K = some (nI (wj l b 0) - 1) := by
  rw [pa_m (P := fun _ => true) h h1 h2 (fun k hk => ⟨fun _ => rfl, fun _ => ?_⟩), pa_w h (fun i hi => ⟨fun _ => Nat.zero_le _, fun _ => rfl⟩)]
  have := h.2.2.2.2.2 _ (List.mem_of_getElem? (gD_i hk))
  have h3 := nI_pos (n := l.getD k 0) (by omega)
  grind
theorem pa_s {K : MI} {m i0 : Nat} {J : MJ} (h : LB l b) (h1 : K m 35 = nI l.length) (h2 : lsr (K (m + 18)) 0 l) (hi0 : i0 < b.length) : f_X5_pickAbove m (nI (b.getD i0 0)) J K = some (nI (wj l b (i0 + 1)) - 1) := by
  have h10 : ∀ j, j < l.length → l.getD j 0 < 10 := fun j hj => h.2.2.2.2.2 _ (List.mem_of_getElem? (gD_i hj))
  have hb10 : b.getD i0 0 < 10 := by rw [← (h.j1 hi0).2]; exact h10 _ (h.j1 hi0).1
  rw [pa_m (P := fun k => decide (b.getD i0 0 < l.getD k 0)) h h1 h2 (fun k hk => ?_), pa_w h (fun i hi => ?_)]
  · rw [decide_eq_true_eq, (h.j1 hi).2]
    constructor
    · intro q
      refine Nat.lt_of_not_le (fun r => ?_)
      by_cases e : i = i0
      · rw [e] at q; omega
      · have := h.lt (show i < i0 by omega) hi0
        omega
    · intro q
      exact h.lt q hi
  · have := h10 k hk
    rw [nI_ltI (by omega) (by omega), decide_eq_true_eq]
end Perm
/-! holes by a row of picks -/
def cmr : List Nat → Nat → Nat
  | [], c => c
  | i :: l, c => cmr l (c ||| 2 ^ i)
theorem cmr_t : ∀ (l : List Nat) (c x : Nat), (cmr l c).testBit x = true ↔ c.testBit x = true ∨ x ∈ l := by
  intro l
  induction l with
  | nil => intro c x; simp [cmr]
  | cons i l ih =>
    intro c x
    rw [cmr, ih, Nat.testBit_or, Nat.testBit_two_pow, Bool.or_eq_true, decide_eq_true_eq, List.mem_cons]
    constructor
    · rintro ((q | q) | q)
      · exact Or.inl q
      · exact Or.inr (Or.inl q.symm)
      · exact Or.inr (Or.inr q)
    · rintro (q | q | q)
      · exact Or.inl (Or.inl q)
      · exact Or.inl (Or.inr q.symm)
      · exact Or.inr q
theorem nds_a {T : Tx} {A : Fl} {w : Nat} : ∀ (l : List Nat) (i c M : Nat), nds T A w (l ++ [i]) c M = max (nds T A w l c M) (mxE T A w (cmr l c) i (tiO T)) := by
  intro l
  induction l with
  | nil => intro i c M; rfl
  | cons j l ih => intro i c M; exact ih i _ _
theorem nds_b {T : Tx} {A : Fl} {w : Nat} (hT : GT T) : ∀ (l : List Nat) (c M : Nat), M ≤ 16 → nds T A w l c M ≤ 16 := by
  intro l
  induction l with
  | nil => intro c M h; exact h
  | cons j l ih =>
    intro c M h
    have := mxE_le (A := A) (w := w) (c := c) (i := j) hT (tiO T)
    exact ih _ _ (by omega)
theorem ims_t {b : List Nat} {S : Nat} : ∀ k x, (ims b S k).testBit x = true ↔ ∃ i, i < k ∧ S.testBit i = true ∧ b.getD i 0 = x := by
  intro k
  induction k with
  | zero =>
    intro x
    rw [ims, Nat.zero_testBit]
    constructor
    · intro h
      cases h
    · rintro ⟨i, hi, _⟩
      omega
  | succ k ih =>
    intro x
    rw [ims]
    cases hb : S.testBit k
    · rw [if_neg (by simp), ih]
      constructor
      · rintro ⟨i, h1, h2, h3⟩
        exact ⟨i, by omega, h2, h3⟩
      · rintro ⟨i, h1, h2, h3⟩
        by_cases e : i = k
        · rw [e, hb] at h2; cases h2
        · exact ⟨i, by omega, h2, h3⟩
    · rw [if_pos rfl, Nat.testBit_or, Nat.testBit_two_pow, Bool.or_eq_true, ih, decide_eq_true_eq]
      constructor
      · rintro (⟨i, h1, h2, h3⟩ | q)
        · exact ⟨i, by omega, h2, h3⟩
        · exact ⟨k, by omega, hb, q⟩
      · rintro ⟨i, h1, h2, h3⟩
        by_cases e : i = k
        · exact Or.inr (e ▸ h3)
        · exact Or.inl ⟨i, by omega, h2, h3⟩
theorem cm_im {b ql : List Nat} {S : Nat} (hq : ∀ i, i ∈ ql ↔ i < b.length ∧ S.testBit i = true) : cmr (ql.map (fun i => b.getD i 0)) 0 = ims b S b.length := by
  refine Nat.eq_of_testBit_eq (fun x => ?_)
  rw [Bool.eq_iff_iff, cmr_t, ims_t, Nat.zero_testBit]
  constructor
  · rintro (q | q)
    · cases q
    · obtain ⟨i, h1, h2⟩ := List.mem_map.mp q
      exact ⟨i, ((hq i).mp h1).1, ((hq i).mp h1).2, h2⟩
  · rintro ⟨i, h1, h2, h3⟩
    exact Or.inr (List.mem_map.mpr ⟨i, (hq i).mpr ⟨h1, h2⟩, h3⟩)
def Orf (m : Nat) (K K' : MI) : Prop := (∀ a, a ≠ m → a ≠ m + 20 → a ≠ m + 21 → a ≠ m + 22 → K' a = K a) ∧ ∀ k, k ≠ 39 → K' m k = K m k
theorem Orf.tr {m : Nat} {K K' K'' : MI} (h : Orf m K K') (h' : Orf m K' K'') : Orf m K K'' := ⟨fun a h1 h2 h3 h4 => (h'.1 a h1 h2 h3 h4).trans (h.1 a h1 h2 h3 h4), fun k hk => (h'.2 k hk).trans (h.2 k hk)⟩
theorem Orf.rf {m : Nat} {K : MI} : Orf m K K := ⟨fun _ _ _ _ _ => rfl, fun _ _ => rfl⟩
theorem Orf.mt {m : Nat} {K K' : MI} {T : Tx} (h : Orf m K K') (c : MT K m T) : MT K' m T := c.fr (fun r hr => h.1 _ (by omega) (by omega) (by omega) (by omega))
theorem Orf.pk {m : Nat} {K K' : MI} {T : Tx} {A : Fl} {w : Nat} {l : List Nat} (h : Orf m K K') (c : MPk K m T A w l) : MPk K' m T A w l := by
  unfold MPk at *
  rw [h.2 35 (by omega), h.1 (m + 18) (by omega) (by omega) (by omega) (by omega), h.1 (m + 19) (by omega) (by omega) (by omega) (by omega)]
  exact c
/-- what a call for a row's beginning leaves: the best so far -/
def OrQ (m : Nat) (K K' : MI) (n B v : Nat) (q : List Nat) : Prop := Orf m K K' ∧ (∀ j, j < n → K' (m + 21) j = K (m + 21) j) ∧ (v < B → K' m 39 = nI v ∧ lsr (K' (m + 22)) 0 q) ∧ (¬ v < B → K' m 39 = K m 39 ∧ K' (m + 22) = K (m + 22))
theorem or_m {T : Tx} {A : Fl} {w m : Nat} {J : MJ} {l b : List Nat} (hT : GT T) (hw : w < 65536) (hLB : LB l b) : ∀ (rem fuel : Nat) (ql : List Nat) (S U B : Nat) (K : MI), rem < fuel → ql.length + rem = b.length → ql.Nodup → (∀ i, i ∈ ql ↔ i < b.length ∧ S.testBit i = true) → S < 2 ^ b.length → uc b.length S = rem → U < 64 → (∀ i, i < b.length → U.testBit (jx l b i) = S.testBit i) → MT K m T → MPk K m T A w l → lsr (K (m + 21)) 0 (ql.map (jx l b)) → K m 39 = nI B → B ≤ 1000 → Ok (f_X5_orders1 fuel m (nI w) (nI ql.length) (nI U) J K) (fun K' => OrQ m K K' ql.length B (max (nds T A w (ql.map (fun i => b.getD i 0)) 0 0) (lst T A w b rem S)) (ql.map (jx l b) ++ (gr T A w b (max (nds T A w (ql.map (fun i => b.getD i 0)) 0 0) (lst T A w b rem S)) rem S).map (jx l b))) := by
  have h6 := hLB.2.1
  have hbl := hLB.1
  intro rem
  induction rem with
  | zero =>
    intro fuel ql S U B K hf hql hnd hq hS huc hU hUS cT cP cR hB hB1
    obtain ⟨f, rfl⟩ : ∃ f, fuel = f + 1 := ⟨fuel - 1, by omega⟩
    have hP16 := nds_b (A := A) (w := w) hT (ql.map (fun i => b.getD i 0)) 0 0 (by omega)
    have hmapeq : (ql.map (jx l b)).map (fun k => l.getD k 0) = ql.map (fun i => b.getD i 0) := by
      rw [List.map_map]
      refine List.map_congr_left (fun i hi => ?_)
      exact (hLB.j1 ((hq i).mp hi).1).2
    show Ok (g_X5_orders1 (f_X5_orders1 f) m (nI w) (nI ql.length) (nI U) J K) _
    unfold g_X5_orders1
    refine ok_pos (by rw [cP.1]; congr 1; omega) (ok_bind (nb_m (J := J) (l := l) (rl := ql.map (jx l b)) hT hw hLB.2.2.2.2.2 (by omega) (by rw [List.length_map]; omega) (fun k hk => ?_) cT cP cR ?_) (fun r hr => ?_))
    · obtain ⟨i, h1, rfl⟩ := List.mem_map.mp hk
      exact (hLB.j1 ((hq i).mp h1).1).1
    · rw [hmapeq]
      refine List.pairwise_map.mpr (List.Pairwise.imp_of_mem (fun {a c} ha hc hac => ?_) hnd)
      intro e
      have ha' := ((hq a).mp ha).1
      have hc' := ((hq c).mp hc).1
      rcases Nat.lt_trichotomy a c with q | q | q
      · have := hLB.lt q hc'; omega
      · exact hac q
      · have := hLB.lt q ha'; omega
    · obtain ⟨r1, r2⟩ := hr
      rw [hmapeq] at r1
      rw [lst, Nat.max_zero]
      generalize nds T A w (ql.map (fun i => b.getD i 0)) 0 0 = P at hP16 r1 ⊢
      have hf1 : Orf m K r.2 := ⟨fun a h1 h2 h3 h4 => r2 a h2, fun k _ => by rw [r2 m (by omega)]⟩
      rw [r1, r2 m (by omega), hB]
      by_cases hlt : P < B
      · refine ok_pos (nI_lt hlt (by omega)) (ok_wq (fun K1 hK1 => ?_))
        have hf2 : Orf m K K1 := by
          rw [hK1]
          exact ⟨fun a h1 h2 h3 h4 => by rw [mst_row _ _ _ h1]; exact r2 a h2, fun k hk => by rw [mst_ne _ _ (Or.inr hk), r2 m (by omega)]⟩
        have h39 : K1 m 39 = nI P := by rw [hK1, mst_self]
        have h21 : K1 (m + 21) = K (m + 21) := by rw [hK1, mst_row _ _ _ (by omega)]; exact r2 _ (by omega)
        refine ok_bind (P := fun s : Int32 × MI => lsr (s.2 (m + 22)) 0 (ql.map (jx l b)) ∧ ∀ a, a ≠ m + 22 → s.2 a = K1 a) (ok_up b.length (fun k s => ∃ K', s = (nI k, K') ∧ (∀ j c, j < k → (ql.map (jx l b))[j]? = some c → K' (m + 22) j = nI c) ∧ ∀ a, a ≠ m + 22 → K' a = K1 a) (fun k s hk hs => ?_) (fun s hs => ?_) 0 _ (by omega) ⟨K1, rfl, fun j c hj => by omega, fun _ _ => rfl⟩) (fun s hs => ok_some ?_)
        · obtain ⟨K', rfl, q1, q2⟩ := hs
          obtain ⟨c, hc⟩ := ls_get (l := ql.map (jx l b)) (j := k) (by rw [List.length_map]; omega)
          have fc := cR k c hc
          rw [Nat.zero_add] at fc
          refine ok_pos (by dsimp only; rw [q2 m (by omega), hf2.2 35 (by omega), cP.1]; exact nI_lt (by omega) (by omega)) (ok_bs (rd_v (v := nI c) k rfl (by omega) (by omega) (by dsimp only; rw [q2 _ (by omega), h21]; exact fc)) (ok_wr k rfl (by omega) (by omega) (ok_some ⟨_, by dsimp only; rw [nI_1], fun j d hj hd => ?_, fun a ha => ?_⟩)))
          · rw [ms_r]
            by_cases e : j = k
            · rw [e] at hd ⊢
              rw [hd] at hc
              rw [pu_s, Option.some.inj hc]
            · rw [pu_n e]
              exact q1 j d (by omega) hd
          · rw [mst_row _ _ _ ha]
            exact q2 a ha
        · obtain ⟨K', rfl, q1, q2⟩ := hs
          refine ok_neg (by dsimp only; rw [q2 m (by omega), hf2.2 35 (by omega), cP.1]; exact nI_nlt (by omega) (by omega)) (ok_some ⟨fun j c hj => ?_, q2⟩)
          rw [Nat.zero_add]
          have := ls_lt hj
          rw [List.length_map] at this
          exact q1 j c (by omega) hj
        · obtain ⟨q1, q2⟩ := hs
          refine ⟨hf2.tr ⟨fun a h1 h2 h3 h4 => q2 a h4, fun k _ => by rw [q2 m (by omega)]⟩, fun j hj => by rw [q2 _ (by omega), h21], fun _ => ⟨by rw [q2 m (by omega)]; exact h39, ?_⟩, fun q => absurd hlt q⟩
          rw [gr, List.map_nil, List.append_nil]
          exact q1
      · refine ok_neg (nI_nlt (by omega) (by omega)) (ok_some ⟨hf1, fun j hj => by rw [r2 _ (by omega)], fun q => absurd q hlt, fun _ => ⟨by rw [r2 m (by omega)], r2 _ (by omega)⟩⟩)
  | succ k ih =>
    intro fuel ql S U B K hf hql hnd hq hS huc hU hUS cT cP cR hB hB1
    obtain ⟨f, rfl⟩ : ∃ f, fuel = f + 1 := ⟨fuel - 1, by omega⟩
    have hP16 := nds_b (A := A) (w := w) hT (ql.map (fun i => b.getD i 0)) 0 0 (by omega)
    have hcm := cm_im hq
    obtain ⟨P, hP⟩ : ∃ P, P = nds T A w (ql.map (fun i => b.getD i 0)) 0 0 := ⟨_, rfl⟩
    rw [← hP] at hP16 ⊢
    obtain ⟨ls1, f0, ls2, ls3, ls4⟩ := lst_s (A := A) (w := w) (b := b) hT huc
    have hvl := fun i (hi : i < b.length) hb => vl_b (A := A) (w := w) (b := b) hT hi hb huc
    obtain ⟨pr, hpr⟩ : ∃ pr, pr = ql.map (jx l b) := ⟨_, rfl⟩
    have hprl : pr.length = ql.length := by rw [hpr, List.length_map]
    rw [← hpr] at cR ⊢
    show Ok (g_X5_orders1 (f_X5_orders1 f) m (nI w) (nI ql.length) (nI U) J K) _
    unfold g_X5_orders1
    refine ok_neg (by rw [cP.1]; intro q; have := (nI_eq (by omega) (by omega)).mp q; omega) (ok_bs (pa_0 hLB cP.1 cP.2.1) ?_)
    refine ok_bind (P := fun s : Int32 × MI => OrQ m K s.2 ql.length B (max P (lst T A w b (k + 1) S)) (pr ++ (gr T A w b (max P (lst T A w b (k + 1) S)) (k + 1) S).map (jx l b))) ?_ (fun s hs => ok_some hs)
    refine ok_up b.length (fun i s => ∃ K', s = (nI (wj l b i) - 1, K') ∧ Orf m K K' ∧ (∀ j, j < ql.length → K' (m + 21) j = K (m + 21) j) ∧ ((K' m 39 = K m 39 ∧ K' (m + 22) = K (m + 22) ∧ ∀ i', i' < i → S.testBit i' = false → B ≤ max P (vl T A w b k S i')) ∨ (∃ f, f < i ∧ S.testBit f = false ∧ max P (vl T A w b k S f) < B ∧ K' m 39 = nI (max P (vl T A w b k S f)) ∧ lsr (K' (m + 22)) 0 (pr ++ jx l b f :: (gr T A w b (max P (vl T A w b k S f)) k (S ||| 2 ^ f)).map (jx l b)) ∧ (∀ i', i' < i → S.testBit i' = false → max P (vl T A w b k S f) ≤ max P (vl T A w b k S i')) ∧ ∀ i', i' < f → S.testBit i' = false → max P (vl T A w b k S f) < max P (vl T A w b k S i')))) (fun i s hi hs => ?_) (fun s hs => ?_) 0 _ (by omega) ⟨K, rfl, Orf.rf, fun _ _ => rfl, Or.inl ⟨rfl, rfl, fun i' h => by omega⟩⟩
    · obtain ⟨K', rfl, o1, o2, o3⟩ := hs
      have hj := hLB.j1 hi
      have hwj : wj l b i = jx l b i + 1 := by unfold wj; rw [if_pos hi]
      have hv : ∀ K1 : MI, Orf m K K1 → (rd 10 (K1 (m + 18)) (nI (jx l b i)) = some (nI (b.getD i 0)) ∧ f_X5_pickAbove m (nI (b.getD i 0)) J K1 = some (nI (wj l b (i + 1)) - 1)) := by
        intro K1 hK1
        have cP1 := hK1.pk cP
        refine ⟨rd_v _ rfl (by omega) (by omega) ?_, pa_s hLB cP1.1 cP1.2.1 hi⟩
        have := cP1.2.1 _ _ (gD_i hj.1)
        rw [Nat.zero_add, hj.2] at this
        exact this
      rw [hwj, nI_pred]
      refine ok_neg (nI_pos (by omega)) ?_
      dsimp only
      rw [b_is (by omega) (by omega), hUS i hi]
      cases hb : S.testBit i
      · have huc' := uc_add hi hb
        obtain ⟨K2, hK2⟩ : ∃ K2, K2 = mst K' (m + 21) ql.length (nI (jx l b i)) := ⟨_, rfl⟩
        have hf2 : Orf m K' K2 := by
          rw [hK2]
          exact ⟨fun a h1 h2 h3 h4 => mst_row _ _ _ h3, fun k _ => mst_ne _ _ (Or.inl (by omega))⟩
        have hKf := o1.tr hf2
        have h39 : K2 m 39 = K' m 39 := by rw [hK2, mst_ne _ _ (Or.inl (by omega))]
        have h22 : K2 (m + 22) = K' (m + 22) := by rw [hK2, mst_row _ _ _ (by omega)]
        have h21 : ∀ j, j < ql.length → K2 (m + 21) j = K' (m + 21) j := fun j hj' => by rw [hK2, ms_r, pu_n (by omega)]
        -- the best so far, as a number
        have hBx : ∃ B', K2 m 39 = nI B' ∧ B' ≤ B := by
          rw [h39]
          rcases o3 with ⟨w1, _⟩ | ⟨g, _, _, w3, w4, _⟩
          · exact ⟨B, w1.trans hB, Nat.le_refl _⟩
          · exact ⟨_, w4, by omega⟩
        obtain ⟨B', hB', hB'le⟩ := hBx
        have hP' : nds T A w ((ql ++ [i]).map (fun i => b.getD i 0)) 0 0 = max P (pkk T A w b S i) := by
          rw [List.map_append, List.map_singleton, nds_a, hcm, ← hP]
          rfl
        have hvi : max (max P (pkk T A w b S i)) (lst T A w b k (S ||| 2 ^ i)) = max P (vl T A w b k S i) := by
          unfold vl
          rw [Nat.max_assoc]
        have hrec := ih f (ql ++ [i]) (S ||| 2 ^ i) (U ||| 2 ^ jx l b i) B' K2 (by omega) (by rw [List.length_append, List.length_singleton]; omega) (List.pairwise_append.mpr ⟨hnd, List.pairwise_singleton _ _, fun a ha c hc => by
            rw [List.mem_singleton.mp hc]
            intro e
            have := ((hq a).mp ha).2
            rw [e, hb] at this
            cases this⟩) (fun j => by
            rw [List.mem_append, List.mem_singleton, hq, Nat.testBit_or, Nat.testBit_two_pow, Bool.or_eq_true, decide_eq_true_eq]
            constructor
            · rintro (q | q)
              · exact ⟨q.1, Or.inl q.2⟩
              · rw [q]; exact ⟨hi, Or.inr rfl⟩
            · rintro ⟨q1, q2 | q2⟩
              · exact Or.inl ⟨q1, q2⟩
              · exact Or.inr q2.symm) (or_n hS hi) (by omega) (Nat.or_lt_two_pow (n := 6) hU (Nat.pow_lt_pow_right (by omega) (by omega))) (fun j hjb => by
            rw [Nat.testBit_or, Nat.testBit_or, hUS j hjb, Nat.testBit_two_pow, Nat.testBit_two_pow]
            by_cases e : i = j
            · rw [e]; simp
            · have : ¬ jx l b i = jx l b j := fun q => e (hLB.ij hi hjb q)
              simp [e, this]) (hKf.mt cT) (hKf.pk cP) (fun j c hjc => by
            rw [List.map_append, List.map_singleton, ← hpr] at hjc
            rw [Nat.zero_add]
            rcases ls_app hjc with q | ⟨q1, q2⟩
            · have hjl := ls_lt q
              rw [h21 j (by omega), o2 j (by omega)]
              have := cR j c q
              rw [Nat.zero_add] at this
              exact this
            · rw [q1, q2, hprl, hK2, mst_self]) hB' (by omega)
        rw [hP', hvi, List.length_append, List.length_singleton] at hrec
        rw [nI_1, b_one (by omega), b_lor]
        obtain ⟨K3, hK3, c1, c2, c3, c4⟩ := hrec
        have hO3 : Orf m K K3 := hKf.tr c1
        refine ok_bs (a := K3) (it_n (by decide) (bnd_s (wr_k ql.length rfl (by omega) (by omega)) (bnd_s (a := K3) (by rw [← hK2]; exact hK3) rfl))) (ok_bs (hv K3 hO3).1 (ok_bs (hv K3 hO3).2 (ok_some ⟨K3, rfl, hO3, fun j hj' => by rw [c2 j (by omega), h21 j hj']; exact o2 j hj', ?_⟩)))
        rw [List.map_append, List.map_singleton, ← hpr, List.append_assoc] at c3
        by_cases hlt : max P (vl T A w b k S i) < B'
        · obtain ⟨d1, d2⟩ := c3 hlt
          refine Or.inr ⟨i, by omega, hb, by omega, d1, d2, fun i' hi' hb' => ?_, fun i' hi' hb' => ?_⟩
          · by_cases e : i' = i
            · rw [e]; exact Nat.le_refl _
            · rcases o3 with ⟨w1, w2, w3⟩ | ⟨g, w1, w2, w3, w4, w5, w6, w7⟩
              · have := w3 i' (by omega) hb'
                omega
              · have := w6 i' (by omega) hb'
                rw [h39, w4] at hB'
                have := (nI_eq (by omega) (by omega)).mp hB'
                omega
          · rcases o3 with ⟨w1, w2, w3⟩ | ⟨g, w1, w2, w3, w4, w5, w6, w7⟩
            · have := w3 i' (by omega) hb'
              omega
            · have := w6 i' (by omega) hb'
              rw [h39, w4] at hB'
              have := (nI_eq (by omega) (by omega)).mp hB'
              omega
        · obtain ⟨d1, d2⟩ := c4 hlt
          rcases o3 with ⟨w1, w2, w3⟩ | ⟨g, w1, w2, w3, w4, w5, w6, w7⟩
          · refine Or.inl ⟨by rw [d1, h39]; exact w1, by rw [d2, h22]; exact w2, fun i' hi' hb' => ?_⟩
            by_cases e : i' = i
            · rw [e]
              rw [h39, w1, hB] at hB'
              have := (nI_eq (by omega) (by omega)).mp hB'
              omega
            · exact w3 i' (by omega) hb'
          · refine Or.inr ⟨g, by omega, w2, w3, by rw [d1, h39]; exact w4, by rw [d2, h22]; exact w5, fun i' hi' hb' => ?_, w7⟩
            by_cases e : i' = i
            · rw [e]
              rw [h39, w4] at hB'
              have := (nI_eq (by omega) (by omega)).mp hB'
              omega
            · exact w6 i' (by omega) hb'
      · refine ok_bs (a := K') (it_p rfl rfl) (ok_bs (hv K' o1).1 (ok_bs (hv K' o1).2 (ok_some ⟨K', rfl, o1, o2, ?_⟩)))
        rcases o3 with ⟨w1, w2, w3⟩ | ⟨g, w1, w2, w3, w4, w5, w6, w7⟩
        · refine Or.inl ⟨w1, w2, fun i' hi' hb' => ?_⟩
          by_cases e : i' = i
          · rw [e, hb] at hb'; cases hb'
          · exact w3 i' (by omega) hb'
        · refine Or.inr ⟨g, by omega, w2, w3, w4, w5, fun i' hi' hb' => ?_, w7⟩
          by_cases e : i' = i
          · rw [e, hb] at hb'; cases hb'
          · exact w6 i' (by omega) hb'
    · obtain ⟨K', rfl, o1, o2, o3⟩ := hs
      have hwj : wj l b b.length = 0 := by unfold wj; rw [if_neg (by omega)]
      rw [hwj]
      refine ok_pos ((m1_l (by omega)).mpr rfl) (ok_some ⟨o1, o2, fun hlt => ?_, fun hlt => ?_⟩)
      · rcases o3 with ⟨w1, w2, w3⟩ | ⟨g, w1, w2, w3, w4, w5, w6, w7⟩
        · have := w3 f0 ls2 ls3
          omega
        · have hg1 := w6 f0 ls2 ls3
          have hg2 := ls1 g w1 w2
          have hme : max P (lst T A w b (k + 1) S) = max P (vl T A w b k S g) := by omega
          rw [hme]
          refine ⟨w4, ?_⟩
          have hnE : nE (fun i => !S.testBit i && decide (vl T A w b k S i ≤ max P (vl T A w b k S g))) b.length 0 = g := by
            obtain ⟨_, n2, n3, n4⟩ := nE_s (p := fun i => !S.testBit i && decide (vl T A w b k S i ≤ max P (vl T A w b k S g))) b.length 0
            generalize nE (fun i => !S.testBit i && decide (vl T A w b k S i ≤ max P (vl T A w b k S g))) b.length 0 = j at n2 n3 n4
            rcases Nat.lt_trichotomy j g with q | q | q
            · have h3 := n3 (by omega)
              rw [Bool.and_eq_true, decide_eq_true_eq] at h3
              have hb' : S.testBit j = false := by simpa using h3.1
              have := w7 j q hb'
              omega
            · exact q
            · have h4 := n4 g (by omega) q
              rw [w2, decide_eq_true (Nat.le_max_right _ _)] at h4
              cases h4
          rw [gr, hnE, List.map_cons]
          exact w5
      · rcases o3 with ⟨w1, w2, w3⟩ | ⟨g, w1, w2, w3, w4, w5, w6, w7⟩
        · exact ⟨w1, w2⟩
        · have hg2 := ls1 g w1 w2
          omega
