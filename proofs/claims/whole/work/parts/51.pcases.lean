/-! wave, pick, walk, cost -/
def wW (D : Dt) : Nat := wav D.1 (wts D.1 D.2.1) (tiW D.1)
theorem wW_16 {D : Dt} (hg : GD D) : wW D < 65536 := wav_lt (bs_16 hg.1.2.1)
section Pick
variable {x t u : Nat} {z : Sh} {I : MI} {J : MJ} {D : Dt}
theorem nw_a {m : Nat} {K : MI} (hg : GD D) (hm : MW m K D) : f_X5_nextWave m J K = some (nI (wW D)) := by
  have hW := hg.1.2.2.2.1
  unfold f_X5_nextWave
  exact bnd_s (wm_s hm.1 hm.2.1 hg.1.2.1 (fun o ho => (hg.2.1.1.2.1 o ho).1)) (bnd_s (rd_v 0 rfl (by omega) (by omega) hm.1.1.2.2.2.1) (bnd_s (wo_m hm.1 hg.1 (bs_16 hg.1.2.1) hW.1 hW.2) rfl))
theorem both_a (J : MJ) (hg : GD D) (hz : GZ x t u z) (hc : CW x t z I D) (hm : MW (x + 46) I D) : ∃ l I1 K1, Pk D.1 D.2.1 (wW D) l ∧ f_X1_make (x + 34) t (x + 24) I = some I1 ∧ CPk I1 (x + 34) D.1 D.2.1 (wW D) l ∧ Pl x I I1 ∧ CT I1 t D.1 ∧ MW (x + 46) (mst I1 (x + 46) 0 0) D ∧ f_X5_laysPicks (x + 46) (nI (wW D)) J (mst I1 (x + 46) 0 0) = some K1 ∧ MPk K1 (x + 46) D.1 D.2.1 (wW D) l ∧ Ms (x + 46) I1 K1 ∧ MW (x + 46) K1 D := by
  have ht := hz.2.2.2.1
  obtain ⟨I1, e1, l, a1, a2, a3⟩ := mk_c (p := x + 34) (t := t) (f := x + 24) hc.1 hc.2.1 (Nat.le_refl _) hg.1 hg.2.1.1 (by omega) (by omega)
  have hm1 : MW (x + 46) (mst I1 (x + 46) 0 0) D := (hm.cd (fun a ha => a3 a (by omega))).thr
  obtain ⟨K1, e2, l', b1, b2, b3⟩ := lp_m (J := J) (w := wW D) hm1.1 hm1.2.1 (Nat.le_refl _) hg.1 hg.2.1.1 (wW_16 hg)
  obtain rfl := pw_uq l l' a1.1 b1.1 (fun i => by rw [a1.2, b1.2]; rfl)
  exact ⟨l, I1, K1, a1, e1, a2, fun a ha => a3 a (by omega), hc.1.fr (fun r hr => a3 _ (by omega)), hm1, e2, b2, (Ms.f (by omega)).tr b3, hm1.ms b3⟩
theorem case_6 {L : Nat} {xs : Nat → Int32} : CaseOk (Inv x) L (fun t u i z J I => f_Lc_6 x t u (x + 46) L xs i z J I) := by
  rintro t u z J I k ⟨D, hg, hz, hc, hm⟩ hk
  obtain ⟨l, I1, K1, a1, a2, a3, a4, a5, a6, _⟩ := both_a J hg hz hc hm
  refine ⟨z, J, mst I1 (x + 46) 0 0, t, u, ?_, Inv.pl hg hz hc hm a4 (Ms.f (by omega))⟩
  show f_Lc_6 x t u (x + 46) L xs (nI (6 * k)) z J I = _
  unfold f_Lc_6 f_X4_wave f_X5_wave
  refine bnd_s (bnd_s a2 rfl) (bnd_s (bnd_s rfl (bnd_s (nw_a hg a6) rfl)) ?_)
  exact it_p a3.1 rfl
theorem q_pick (hg : GD D) (hz : GZ x t u z) (hc : CW x t z I D) (hm : MW (x + 46) I D) (p q : Int32) : ∃ v I1 K1, f_X4_pick x t u p q I = some (v, I1) ∧ f_X5_pick (x + 46) p q J I1 = some (v, K1) ∧ Pl x I I1 ∧ Ms (x + 46) I1 K1 := by
  obtain ⟨l, I1, K1, a1, a2, a3, a4, a5, a6, a7, a8, a9, _⟩ := both_a J hg hz hc hm
  have hl := a1.len
  have hI := hg.1.1
  have e1 : I1 (x + 34) 1 = nI l.length := a3.2.1
  have e2 : K1 (x + 46) 35 = nI l.length := a8.1
  have hw := nw_a (J := J) hg a6
  unfold f_X4_pick f_X5_pick
  by_cases h1 : p = -1
  · exact ⟨nI l.length, I1, K1, bnd_s a2 (it_p h1 (by rw [e1])), bnd_s rfl (bnd_s hw (bnd_s a7 (it_p h1 (by rw [e2])))), a4, a9⟩
  rcases pk_ix p (n := l.length) (by omega) with h | h | ⟨j, hj, rfl⟩
  · refine ⟨-2, I1, K1, bnd_s a2 (it_n h1 (it_p h rfl)), bnd_s rfl (bnd_s hw (bnd_s a7 (it_n h1 ?_))), a4, a9⟩
    rw [e2]
    exact bnd_s (wi_no (by omega) (Or.inl h)) (it_p rfl rfl)
  · have h0 : ¬ p < 0 := by have := nI_pos (n := l.length) (by omega); grind
    refine ⟨-2, I1, K1, bnd_s a2 (it_n h1 (it_n h0 (it_n (by rw [e1]; grind) rfl))), bnd_s rfl (bnd_s hw (bnd_s a7 (it_n h1 ?_))), a4, a9⟩
    rw [e2]
    exact bnd_s (wi_no (by omega) (Or.inr h)) (it_p rfl rfl)
  · obtain ⟨c, hcc⟩ := ls_get hj
    have f1 := a3.2.2.1 j c hcc
    have f2 := a8.2.1 j c hcc
    have f3 := a3.2.2.2.1 j (un D.1 D.2.1 (wW D) c) (by rw [List.getElem?_map, hcc]; rfl)
    have f4 := a8.2.2 j (un D.1 D.2.1 (wW D) c) (by rw [List.getElem?_map, hcc]; rfl)
    rw [Nat.zero_add] at f1 f2 f3 f4
    have n0 := nI_pos (n := j) (by omega)
    have n1 : nI j < I1 (x + 34) 1 := by rw [e1]; exact nI_lt hj (by omega)
    have ws : f_X5_within (nI j).toInt64 0 (K1 (x + 46) 35 - 1).toInt64 = some 1 := by rw [e2]; exact wi_yes (by omega) hj
    by_cases q0 : q = 0
    · subst q0
      exact ⟨nI c, I1, K1, bnd_s a2 (it_n h1 (it_n n0 (it_p n1 (it_n (by decide) (it_n (by decide) (bnd_s (it_p rfl (bnd_s (rd_v j rfl (by omega) (by omega) f1) rfl)) rfl)))))), bnd_s rfl (bnd_s hw (bnd_s a7 (it_n h1 (bnd_s ws (it_n (by decide) (bnd_s (w_01 0) (it_n (by decide) (bnd_s (it_p rfl (bnd_s (rd_v j rfl (by omega) (by omega) f2) rfl)) rfl)))))))), a4, a9⟩
    by_cases q1 : q = 1
    · subst q1
      exact ⟨nI (un D.1 D.2.1 (wW D) c), I1, K1, bnd_s a2 (it_n h1 (it_n n0 (it_p n1 (it_n (by decide) (it_n (by decide) (bnd_s (it_n (by decide) (bnd_s (rd_v j rfl (by omega) (by omega) f3) rfl)) rfl)))))), bnd_s rfl (bnd_s hw (bnd_s a7 (it_n h1 (bnd_s ws (it_n (by decide) (bnd_s (w_01 1) (it_n (by decide) (bnd_s (it_n (by decide) (bnd_s (rd_v j rfl (by omega) (by omega) f4) rfl)) rfl)))))))), a4, a9⟩
    · refine ⟨-2, I1, K1, bnd_s a2 (it_n h1 (it_n n0 (it_p n1 ?_))), bnd_s rfl (bnd_s hw (bnd_s a7 (it_n h1 (bnd_s ws (it_n (by decide) (bnd_s (w_01 q) (it_p (if_neg (fun w => w.elim q0 q1)) rfl))))))), a4, a9⟩
      by_cases h : q < 0
      · exact it_p h rfl
      · exact it_n h (it_p (by grind) rfl)
theorem case_7 {L : Nat} {xs : Nat → Int32} (hL : L ≤ 3072) : CaseOk (Inv x) L (fun t u i z J I => f_Lc_7 x t u (x + 46) L xs i z J I) := by
  rintro t u z J I k ⟨D, hg, hz, hc, hm⟩ hk
  obtain ⟨v, I1, K1, h1, h2, h3, h4⟩ := q_pick (J := J) hg hz hc hm (xs (6 * k + 1)) (xs (6 * k + 2))
  have r1 := sc_rd (xs := xs) (d := 1) (j := 1) rfl (by omega) hk hL
  have r2 := sc_rd (xs := xs) (d := 2) (j := 2) rfl (by omega) hk hL
  refine ⟨z, J, K1, t, u, ?_, Inv.pl hg hz hc hm h3 h4⟩
  show f_Lc_7 x t u (x + 46) L xs (nI (6 * k)) z J I = _
  unfold f_Lc_7
  exact bnd_s r1 (bnd_s r2 (bnd_s h1 (bnd_s r1 (bnd_s r2 (bnd_s h2 (if_pos rfl))))))
/-- the walk: where one stands behind k picks, and how far one came -/
def plc (T : Tx) (l : List Nat) : Nat → Nat
  | 0 => 0
  | k + 1 => tiP T (l.getD k 0)
def dsn (T : Tx) (l : List Nat) : Nat → Nat
  | 0 => 0
  | k + 1 => dsn T l k + (if plc T l k ≤ plc T l (k + 1) then plc T l (k + 1) - plc T l k else plc T l k - plc T l (k + 1))
theorem iabs_n {a b : Nat} (ha : a < 2 ^ 30) (hb : b < 2 ^ 30) : iabs (nI b - nI a) = nI (if a ≤ b then b - a else a - b) := by
  unfold iabs
  by_cases h : a ≤ b
  · rw [if_pos h, nI_sub h, if_pos (nI_pos' (by omega))]
  · have := pk_sneg (a := b) (b := a) (by omega) (by omega)
    rw [if_neg h, if_neg (by grind), ← nI_sub (show b ≤ a by omega)]
    grind
theorem plc_le {A : Fl} {T : Tx} (hT : GT T) {w : Nat} {l : List Nat} (hl : Pk T A w l) : ∀ k, k ≤ l.length → plc T l k ≤ 99 := by
  intro k hk
  cases k with
  | zero => exact Nat.zero_le _
  | succ k =>
    obtain ⟨c, hc⟩ := ls_get (l := l) (j := k) (by omega)
    rw [plc, List.getD_eq_getElem?_getD, hc]
    exact hT.2.2.2.2.2.1 c ((hl.2 c).mp (List.mem_of_getElem? hc)).1
theorem di_c {p : Nat} {A : Fl} {T : Tx} {w : Nat} {l : List Nat} (hT : CT I t T) (hg : GT T) (hl : Pk T A w l) (h1 : I p 1 = nI l.length) (h2 : lsr (I (p + 1)) 0 l) : f_X1_distance p t I = some (nI (dsn T l l.length + plc T l l.length)) := by
  have hlen := hl.len
  have hI := hg.1
  unfold f_X1_distance
  refine bnd_s (lp_fs (fun k => (nI (dsn T l k), nI (plc T l k), nI k)) l.length (r := (nI (dsn T l l.length), nI (plc T l l.length), nI l.length)) (fun k hk => ?_) ?_) (by dsimp only; rw [nI_add])
  · obtain ⟨c, hc⟩ := ls_get hk
    have f1 := h2 k c hc
    rw [Nat.zero_add] at f1
    have hci := ((hl.2 c).mp (List.mem_of_getElem? hc)).1
    have e : plc T l (k + 1) = tiP T c := by rw [plc, List.getD_eq_getElem?_getD, hc]; rfl
    have q1 := plc_le hg hl k (by omega)
    have q2 := plc_le hg hl (k + 1) (by omega)
    refine it_p (by rw [h1]; exact nI_lt hk (by omega)) (bnd_s (rd_v k rfl (by omega) (by omega) f1) (bnd_s (rd_v c rfl (by omega) (by omega) (hT.2.1 c hci)) ?_))
    dsimp only
    rw [← e, iabs_n (by omega) (by omega), nI_add, nI_1, dsn]
  · exact it_n (by rw [h1]; exact nI_nlt (Nat.le_refl _) (by omega)) rfl
theorem di_m {m : Nat} {K : MI} {A : Fl} {T : Tx} {w : Nat} {l : List Nat} (hT : MT K m T) (hg : GT T) (hl : Pk T A w l) (h1 : K m 35 = nI l.length) (h2 : lsr (K (m + 18)) 0 l) : f_X5_walkOf m J K = some (nI (dsn T l l.length + plc T l l.length)) := by
  have hlen := hl.len
  have hI := hg.1
  have q0 := plc_le hg hl l.length (Nat.le_refl _)
  unfold f_X5_walkOf
  refine bnd_s (lp_seq (fun k => (nI (dsn T l k), nI (plc T l k), nI k)) (r := (nI (dsn T l l.length + plc T l l.length), 0, nI (l.length + 1))) l.length (fun k hk => ?_) (lp_next (s' := (nI (dsn T l l.length + plc T l l.length), 0, nI (l.length + 1))) ?_ (lp_done ?_))) rfl
  · obtain ⟨c, hc⟩ := ls_get hk
    have f1 := h2 k c hc
    rw [Nat.zero_add] at f1
    have hci := ((hl.2 c).mp (List.mem_of_getElem? hc)).1
    have e : plc T l (k + 1) = tiP T c := by rw [plc, List.getD_eq_getElem?_getD, hc]; rfl
    have q1 := plc_le hg hl k (by omega)
    have q2 := plc_le hg hl (k + 1) (by omega)
    refine it_n (by rw [h1]; exact nI_nlt (by omega) (by omega)) (bnd_s (it_p (by rw [h1]; exact nI_lt hk (by omega)) (bnd_s (rd_v k rfl (by omega) (by omega) f1) (bnd_s (rd_v c rfl (by omega) (by omega) (hT.2.1 c hci)) rfl))) ?_)
    dsimp only
    rw [← e, dsn]
    by_cases hle : plc T l k < plc T l (k + 1)
    · refine bnd_s (it_p (nI_lt hle (by omega)) rfl) ?_
      rw [nI_sub (by omega), nI_add, nI_1, if_pos (by omega)]
    · refine bnd_s (it_n (nI_nlt (by omega) (by omega)) rfl) ?_
      rw [nI_sub (by omega), nI_add, nI_1]
      by_cases hq : plc T l k ≤ plc T l (k + 1)
      · rw [if_pos hq, show plc T l k - plc T l (k + 1) = plc T l (k + 1) - plc T l k by omega]
      · rw [if_neg hq]
  · refine it_n (by rw [h1]; exact nI_nlt (Nat.le_refl _) (by omega)) (bnd_s (it_n (by rw [h1]; exact nI_nlt (Nat.le_refl _) (by omega)) rfl) (bnd_s (it_n (nI_pos (by omega)) rfl) ?_))
    dsimp only
    rw [nI_1, show nI (plc T l l.length) - 0 = nI (plc T l l.length) by grind, nI_add]
  · exact it_p (by rw [h1]; exact nI_lt (by omega) (by omega)) rfl
theorem case_8 {L : Nat} {xs : Nat → Int32} : CaseOk (Inv x) L (fun t u i z J I => f_Lc_8 x t u (x + 46) L xs i z J I) := by
  rintro t u z J I k ⟨D, hg, hz, hc, hm⟩ hk
  obtain ⟨l, I1, K1, a1, a2, a3, a4, a5, a6, a7, a8, a9, a10⟩ := both_a J hg hz hc hm
  refine ⟨z, J, K1, t, u, ?_, Inv.pl hg hz hc hm a4 a9⟩
  show f_Lc_8 x t u (x + 46) L xs (nI (6 * k)) z J I = _
  unfold f_Lc_8 f_X4_walk f_X5_walk
  exact bnd_s (bnd_s a2 (bnd_s (di_c a5 hg.1 a1 a3.2.1 a3.2.2.1) rfl)) (bnd_s (bnd_s rfl (bnd_s (nw_a hg a6) (bnd_s a7 (bnd_s (di_m a10.1 hg.1 a1 a8.1 a8.2.1) rfl)))) (it_p rfl rfl))
theorem ii_i (y : Int64) : (y = y.toInt32.toInt64) ↔ (-2147483648 ≤ y.toInt ∧ y.toInt ≤ 2147483647) := by
  rw [← Int64.toInt_inj, Int32.toInt_toInt64]
  constructor
  · intro h
    have h1 := Int32.le_toInt y.toInt32
    have h2 := Int32.toInt_lt y.toInt32
    omega
  · rintro ⟨h1, h2⟩
    rw [Int64.toInt_toInt32, Int.bmod_eq_of_le (by omega) (by omega)]
theorem ii_s (y : Int64) : f_X4_isInt y = some (if y = y.toInt32.toInt64 then 1 else 0) := by
  have c1 : (-2147483648 : Int64).toInt = -2147483648 := by decide
  have c2 : (2147483647 : Int64).toInt = 2147483647 := by decide
  have e := ii_i y
  unfold f_X4_isInt
  by_cases h1 : y < -2147483648
  · rw [if_pos h1, if_neg (fun q => by rw [Int64.lt_iff_toInt_lt, c1] at h1; have := e.mp q; omega)]
    rfl
  · rw [if_neg h1]
    by_cases h2 : 2147483647 < y
    · rw [if_pos h2, if_neg (fun q => by rw [Int64.lt_iff_toInt_lt, c2] at h2; have := e.mp q; omega)]
      rfl
    · rw [if_neg h2, if_pos (e.mpr ⟨by rw [Int64.lt_iff_toInt_lt, c1] at h1; omega, by rw [Int64.lt_iff_toInt_lt, c2] at h2; omega⟩)]
      rfl
theorem q_cost (hg : GD D) (hz : GZ x t u z) (hc : CW x t z I D) (hm : MW (x + 46) I D) (p q : Int32) : ∃ v I1 K1, f_X4_cost x t u p q I = some (v, I1) ∧ f_X5_cost (x + 46) p q J I1 = some (v, K1) ∧ Pl x I I1 ∧ Ms (x + 46) I1 K1 := by
  obtain ⟨l, I1, K1, a1, a2, a3, a4, a5, a6, a7, a8, a9, a10⟩ := both_a J hg hz hc hm
  have hw := nw_a (J := J) hg a6
  have d1 := di_c a5 hg.1 a1 a3.2.1 a3.2.2.1
  have d2 := di_m (J := J) a10.1 hg.1 a1 a8.1 a8.2.1
  have e1 : I1 (x + 34) 1 = nI l.length := a3.2.1
  have e2 : K1 (x + 46) 35 = nI l.length := a8.1
  obtain ⟨dv, hdv⟩ : ∃ dv, dv = nI (dsn D.1 l l.length + plc D.1 l l.length) := ⟨_, rfl⟩
  rw [← hdv] at d1 d2
  unfold f_X4_cost f_X5_cost
  by_cases h1 : p.toInt64 * (nI l.length).toInt64 = (p.toInt64 * (nI l.length).toInt64).toInt32.toInt64
  · by_cases h2 : q.toInt64 * dv.toInt64 = (q.toInt64 * dv.toInt64).toInt32.toInt64
    · by_cases h3 : p.toInt64 * (nI l.length).toInt64 + q.toInt64 * dv.toInt64 = (p.toInt64 * (nI l.length).toInt64 + q.toInt64 * dv.toInt64).toInt32.toInt64
      · refine ⟨(p.toInt64 * (nI l.length).toInt64 + q.toInt64 * dv.toInt64).toInt32, I1, K1, bnd_s a2 (bnd_s d1 ?_), bnd_s rfl (bnd_s hw (bnd_s a7 (bnd_s d2 ?_))), a4, a9⟩
        · rw [e1]
          exact bnd_s (ii_s _) (it_n (by rw [if_pos h1]; decide) (bnd_s (ii_s _) (it_n (by rw [if_pos h2]; decide) (bnd_s (ii_s _) (it_n (by rw [if_pos h3]; decide) rfl)))))
        · rw [e2]
          exact bnd_s (it_p h1 (it_p h2 (it_p h3 rfl))) (bnd_s (it_n (by decide) rfl) rfl)
      · refine ⟨-2147483648, I1, K1, bnd_s a2 (bnd_s d1 ?_), bnd_s rfl (bnd_s hw (bnd_s a7 (bnd_s d2 ?_))), a4, a9⟩
        · rw [e1]
          exact bnd_s (ii_s _) (it_n (by rw [if_pos h1]; decide) (bnd_s (ii_s _) (it_n (by rw [if_pos h2]; decide) (bnd_s (ii_s _) (it_p (if_neg h3) rfl)))))
        · rw [e2]
          exact bnd_s (it_p h1 (it_p h2 (it_n h3 rfl))) (bnd_s (it_p rfl rfl) rfl)
    · refine ⟨-2147483648, I1, K1, bnd_s a2 (bnd_s d1 ?_), bnd_s rfl (bnd_s hw (bnd_s a7 (bnd_s d2 ?_))), a4, a9⟩
      · rw [e1]
        exact bnd_s (ii_s _) (it_n (by rw [if_pos h1]; decide) (bnd_s (ii_s _) (it_p (if_neg h2) rfl)))
      · rw [e2]
        exact bnd_s (it_p h1 (it_n h2 rfl)) (bnd_s (it_p rfl rfl) rfl)
  · refine ⟨-2147483648, I1, K1, bnd_s a2 (bnd_s d1 ?_), bnd_s rfl (bnd_s hw (bnd_s a7 (bnd_s d2 ?_))), a4, a9⟩
    · rw [e1]
      exact bnd_s (ii_s _) (it_p (if_neg h1) rfl)
    · rw [e2]
      exact bnd_s (it_n h1 rfl) (bnd_s (it_p rfl rfl) rfl)
theorem case_9 {L : Nat} {xs : Nat → Int32} (hL : L ≤ 3072) : CaseOk (Inv x) L (fun t u i z J I => f_Lc_9 x t u (x + 46) L xs i z J I) := by
  rintro t u z J I k ⟨D, hg, hz, hc, hm⟩ hk
  obtain ⟨v, I1, K1, h1, h2, h3, h4⟩ := q_cost (J := J) hg hz hc hm (xs (6 * k + 1)) (xs (6 * k + 2))
  have r1 := sc_rd (xs := xs) (d := 1) (j := 1) rfl (by omega) hk hL
  have r2 := sc_rd (xs := xs) (d := 2) (j := 2) rfl (by omega) hk hL
  refine ⟨z, J, K1, t, u, ?_, Inv.pl hg hz hc hm h3 h4⟩
  show f_Lc_9 x t u (x + 46) L xs (nI (6 * k)) z J I = _
  unfold f_Lc_9
  exact bnd_s r1 (bnd_s r2 (bnd_s h1 (bnd_s r1 (bnd_s r2 (bnd_s h2 (if_pos rfl))))))
end Pick
