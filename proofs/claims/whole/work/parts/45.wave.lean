/-! the next wave -/
def lkc (T : Tx) (G o : Nat) : Nat := pop (itO T o &&& G)
def ulc (T : Tx) (G o : Nat) : Nat := pop (df (itO T o) G)
def btr (T : Tx) (G : Nat) : Nat → Nat → Bool := lxb (lkc T G) (ulc T G) (tiD T)
theorem btr_s (T : Tx) (G : Nat) : Sto (btr T G) := lxb_s _ _ _
def sv (f : Nat → Nat) (r : Nat) : Nat := if r = 0 then 0 else f (r - 1)
theorem sv_s {f : Nat → Nat} {n : Nat} : sv f (n + 1) = f n := by simp [sv]
theorem sv_p {f : Nat → Nat} {n : Nat} (h : n ≠ 0) : sv f n = f (n - 1) := by simp [sv, h]
def fitw (T : Tx) (W u o : Nat) : Bool := W.testBit o && decide (u + tot T o ≤ tiU T)
theorem rm_l {U u t : Nat} (hU : U ≤ 100) (hu : u ≤ 2000) (ht : t ≤ 1000) : nI U - nI u < nI t ↔ U < u + t := by
  rw [Int32.lt_iff_toInt_lt, pk_sub_toInt (by omega) (by omega), nI_toInt (by omega)]
  omega
theorem pop_le (a : Nat) : pop a ≤ 16 := ct_le _ _
theorem itO_lt {T : Tx} {o : Nat} : itO T o < 65536 := it_16
theorem ld_16 {a b : Nat} (h : a < 65536) : a &&& b < 65536 := Nat.lt_of_le_of_lt Nat.and_le_left h
theorem df_16 {a b : Nat} (h : a < 65536) : df a b < 65536 := Nat.lt_of_le_of_lt (df_le a b) h
theorem or_16 {a b : Nat} (h : a < 65536) (h' : b < 65536) : a ||| b < 65536 := Nat.or_lt_two_pow (n := 16) h h'
theorem tp_16 {o : Nat} (h : o < 16) : 2 ^ o < 65536 := Nat.pow_lt_pow_right (a := 2) (by omega) (show o < 16 from h)
theorem bj_c {I : MI} {t : Nat} {T : Tx} (hT : CT I t T) (hg : GT T) {G W u : Nat} (hG : G < 65536) (hW : W < 65536) (hu : u ≤ 864) : f_X3_bestToJoin t (nI G) (nI W) (nI (tiU T) - nI u) I = some (nI (sel (fitw T W u) (btr T G) (tiO T)) - 1) := by
  have hO := hg.2.1
  have hU := hg.2.2.2.2.1.2
  have hE := hg.2.2.2.2.2.2.2.2.2.1
  have key : Ok (f_X3_bestToJoin t (nI G) (nI W) (nI (tiU T) - nI u) I) (fun v => v = nI (sel (fitw T W u) (btr T G) (tiO T)) - 1) := by
    unfold f_X3_bestToJoin
    refine ok_bind (P := fun p : Int32 × Int32 × Int32 × Int32 => ∃ r, p.1 = nI r - 1 ∧ Bst (Qe T (fitw T W u) (tiO T)) (btr T G) r) (ok_up (tiO T) (fun k s => ∃ r, r ≤ 16 ∧ s = (nI r - 1, nI (sv (lkc T G) r), nI (sv (ulc T G) r), nI k) ∧ Bst (Qe T (fitw T W u) k) (btr T G) r) (fun k s hk hs => ?_) (fun s hs => ?_) 0 _ (by omega) ⟨0, by omega, rfl, Or.inl ⟨rfl, ?_⟩⟩) (fun p hp => ?_)
    · obtain ⟨r, hr, rfl, hB⟩ := hs
      have hn := hE k hk
      have ht := (hg.2.2.2.2.2.2.2.2.1 (tiE T k) (by omega)).1
      refine ok_pos (by rw [hT.1.2.1]; exact nI_lt hk (by omega)) (ok_bs (rd_v k rfl (by omega) (by omega) (hT.2.2.2.2.2.2 k hk)) (ok_bs (hb_s hW (by omega)) ?_))
      refine ok_bind (P := fun p : Int32 × Int32 × Int32 => ∃ r', r' ≤ 16 ∧ p = (nI r' - 1, nI (sv (lkc T G) r'), nI (sv (ulc T G) r')) ∧ Bst (Qe T (fitw T W u) (k + 1)) (btr T G) r') ?_ (fun p hp => ?_)
      · cases hb : W.testBit (tiE T k)
        · exact ok_pos (by simp) (ok_some ⟨r, hr, rfl, hB.cg (fun o => Qe_no (by simp [fitw, hb]))⟩)
        · refine ok_neg (by simp) (ok_bs (rd_v (tiE T k) rfl (by omega) (by omega) (hT.2.2.2.2.1 (tiE T k) (by omega))) ?_)
          by_cases hf : u + tot T (tiE T k) ≤ tiU T
          · refine ok_neg (fun q => by rw [rm_l (by omega) (by omega) (by omega)] at q; omega) ?_
            have rI : rd 16 (I (t + 8)) (nI (tiE T k)) = some (nI (itO T (tiE T k))) := rd_v (tiE T k) rfl (by omega) (by omega) (hT.2.2.2.2.2.1 (tiE T k) (by omega))
            refine ok_bs rI ?_
            rw [b_land]
            refine ok_bs (bc_s (ld_16 itO_lt)) (ok_bs rI ?_)
            rw [b_df (Nat.lt_trans itO_lt (by omega))]
            refine ok_bs (bc_s (df_16 itO_lt)) ?_
            have hp : fitw T W u (tiE T k) = true := by simp [fitw, hb, hf]
            have hst := (hB.st (btr_s T G) (Qe_new hg hk)).cg (fun o => Qe_yes hp)
            have take : (decide (r = 0) || btr T G (tiE T k) (r - 1)) = true → Ok (some ((nI (tiE T k), nI (pop (itO T (tiE T k) &&& G)), nI (pop (df (itO T (tiE T k)) G))) : Int32 × Int32 × Int32)) (fun p : Int32 × Int32 × Int32 => ∃ r', r' ≤ 16 ∧ p = (nI r' - 1, nI (sv (lkc T G) r'), nI (sv (ulc T G) r')) ∧ Bst (Qe T (fitw T W u) (k + 1)) (btr T G) r') := by
              intro hc
              rw [if_pos hc] at hst
              exact ok_some ⟨tiE T k + 1, by omega, by rw [nI_pred, sv_s, sv_s]; rfl, hst⟩
            by_cases h0 : r = 0
            · exact ok_pos ((m1_e (by omega)).mpr h0) (take (by simp [h0]))
            have hQ : Qe T (fitw T W u) k (r - 1) := by
              rcases hB with ⟨q, _⟩ | ⟨_, q, _⟩
              · exact absurd q h0
              · exact q
            have hne := erb_i.mp (Qe_er hg hk hQ)
            unfold erl at hne
            have keep : ¬ btr T G (tiE T k) (r - 1) = true → Ok (some ((nI r - 1, nI (sv (lkc T G) r), nI (sv (ulc T G) r)) : Int32 × Int32 × Int32)) (fun p : Int32 × Int32 × Int32 => ∃ r', r' ≤ 16 ∧ p = (nI r' - 1, nI (sv (lkc T G) r'), nI (sv (ulc T G) r')) ∧ Bst (Qe T (fitw T W u) (k + 1)) (btr T G) r') := by
              intro hc
              rw [if_neg (by simp [h0, hc])] at hst
              exact ok_some ⟨r, hr, rfl, hst⟩
            have l1 : lkc T G (r - 1) ≤ 16 := pop_le _
            have l2 : pop (itO T (tiE T k) &&& G) ≤ 16 := pop_le _
            have l3 : ulc T G (r - 1) ≤ 16 := pop_le _
            have l4 : pop (df (itO T (tiE T k)) G) ≤ 16 := pop_le _
            have e1 : lkc T G (tiE T k) = pop (itO T (tiE T k) &&& G) := rfl
            have e2 : ulc T G (tiE T k) = pop (df (itO T (tiE T k)) G) := rfl
            refine ok_neg (fun q => h0 ((m1_e (by omega)).mp q)) ?_
            dsimp only
            by_cases c1 : lkc T G (r - 1) < lkc T G (tiE T k)
            · exact ok_pos (by rw [sv_p h0]; exact nI_lt c1 (by omega)) (take (by rw [Bool.or_eq_true]; right; unfold btr; rw [lxb_i]; omega))
            refine ok_neg (by rw [sv_p h0]; exact nI_nlt (by omega) (by omega)) ?_
            by_cases c2 : lkc T G (tiE T k) = lkc T G (r - 1)
            · refine ok_pos (by rw [sv_p h0, ← c2]; rfl) ?_
              by_cases c3 : ulc T G (tiE T k) < ulc T G (r - 1)
              · exact ok_pos (by rw [sv_p h0]; exact nI_lt c3 (by omega)) (take (by rw [Bool.or_eq_true]; right; unfold btr; rw [lxb_i]; omega))
              · exact ok_neg (by rw [sv_p h0]; exact nI_nlt (by omega) (by omega)) (keep (by unfold btr; rw [lxb_i]; omega))
            · refine ok_neg (fun q => c2 ?_) (keep (by unfold btr; rw [lxb_i]; omega))
              rw [sv_p h0] at q
              exact (nI_eq (by omega) (by omega)).mp q
          · exact ok_pos ((rm_l (by omega) (by omega) (by omega)).mpr (by omega)) (ok_some ⟨r, hr, rfl, hB.cg (fun o => Qe_no (by simp [fitw, hf]))⟩)
      · obtain ⟨r', hr', rfl, hB'⟩ := hp
        exact ok_some ⟨r', hr', by rw [nI_1], hB'⟩
    · obtain ⟨r, hr, rfl, hB⟩ := hs
      exact ok_neg (by rw [hT.1.2.1]; exact nI_nlt (Nat.le_refl _) (by omega)) (ok_some ⟨r, rfl, hB⟩)
    · rintro o ⟨⟨e, he, _⟩, _⟩
      omega
    · obtain ⟨r, h1, h2⟩ := hp
      refine ok_some ?_
      rw [h1, ((sel_bst (P := fitw T W u) (btr_s T G) (tiO T)).cg (fun o => (Qe_all hg).symm)).uq (btr_s T G) h2]
  obtain ⟨v, hv, rfl⟩ := key
  exact hv
def nxt (T : Tx) (W w u : Nat) : Nat := sel (fitw T (df W w) u) (btr T (itS T w (tiO T))) (tiO T)
theorem nt_m {K : MI} {m : Nat} {J : MJ} {T : Tx} (hT : MT K m T) (hg : GT T) {w W u : Nat} (hw : w < 65536) (hW : W < 65536) (hu : u ≤ 864) : f_X5_nextTo m (nI w) (nI W) (nI u) J K = some (nI (nxt T W w u) - 1) := by
  have hO := hg.2.1
  have hU := hg.2.2.2.2.1.2
  have hG : itS T w (tiO T) < 65536 := it_16
  unfold f_X5_nextTo
  refine bnd_s (im_m hT hg hw) ?_
  unfold nxt
  generalize itS T w (tiO T) = G at hG ⊢
  refine bnd_s (lp_fs (fun k => (nI (sel (fitw T (df W w) u) (btr T G) k) - 1, nI (sv (lkc T G) (sel (fitw T (df W w) u) (btr T G) k)), nI (sv (ulc T G) (sel (fitw T (df W w) u) (btr T G) k)), nI k)) (tiO T) (r := (nI (sel (fitw T (df W w) u) (btr T G) (tiO T)) - 1, nI (sv (lkc T G) (sel (fitw T (df W w) u) (btr T G) (tiO T))), nI (sv (ulc T G) (sel (fitw T (df W w) u) (btr T G) (tiO T))), nI (tiO T))) (fun k hk => ?_) ?_) rfl
  · refine bnd_s (rd_v 0 rfl (by omega) (by omega) hT.1.2.1) (it_p (nI_lt hk (by omega)) ?_)
    have hl := sel_le (P := fitw T (df W w) u) (R := btr T G) k
    have ht := (hg.2.2.2.2.2.2.2.2.1 k (by omega)).1
    refine bnd_s (a := (nI (sel (fitw T (df W w) u) (btr T G) (k + 1)) - 1, nI (sv (lkc T G) (sel (fitw T (df W w) u) (btr T G) (k + 1))), nI (sv (ulc T G) (sel (fitw T (df W w) u) (btr T G) (k + 1))))) ?_ (by dsimp only; rw [nI_1])
    rw [sel]
    dsimp only
    generalize hr : sel (fitw T (df W w) u) (btr T G) k = r at hl ⊢
    rw [b_is (a := W) (by omega) (by omega), b_is (a := w) (by omega) (by omega)]
    cases hb : W.testBit k
    · refine it_p rfl ?_
      rw [if_neg (by simp [fitw, df_t, hb])]
    refine it_n (by decide) ?_
    cases hc : w.testBit k
    · refine it_n (by decide) (bnd_s (mn_s hT.2.2.2 (by omega)) (bnd_s (rd_v 0 rfl (by omega) (by omega) hT.1.2.2.2.2) ?_))
      rw [nI_add]
      by_cases hf : u + tot T k ≤ tiU T
      · refine it_n (nI_nlt hf (by unfold tot at *; omega)) ?_
        rw [b_one (by omega)]
        refine bnd_s (im_m hT hg (tp_16 (by omega))) ?_
        rw [itS_1 hk, b_land]
        refine bnd_s (c1_s (ld_16 itO_lt)) ?_
        rw [b_df (Nat.lt_trans itO_lt (by omega))]
        refine bnd_s (c1_s (df_16 itO_lt)) ?_
        have hp : fitw T (df W w) u k = true := by simp [fitw, df_t, hb, hc, hf]
        rw [hp, Bool.true_and]
        have l1 : lkc T G (r - 1) ≤ 16 := pop_le _
        have l2 : pop (itO T k &&& G) ≤ 16 := pop_le _
        have l3 : ulc T G (r - 1) ≤ 16 := pop_le _
        have l4 : pop (df (itO T k) G) ≤ 16 := pop_le _
        have e1 : lkc T G k = pop (itO T k &&& G) := rfl
        have e2 : ulc T G k = pop (df (itO T k) G) := rfl
        refine bnd_s (a := if (decide (r = 0) || btr T G k (r - 1)) = true then 1 else 0) ?_ ?_
        · by_cases h0 : r = 0
          · exact it_p ((m1_l (by omega)).mpr h0) (by simp [h0])
          refine it_n (fun q => h0 ((m1_l (by omega)).mp q)) ?_
          rw [sv_p h0, sv_p h0, m1_p h0]
          have yes : btr T G k (r - 1) = true → (some 1 : Option Int32) = some (if (decide (r = 0) || btr T G k (r - 1)) = true then 1 else 0) := fun q => by rw [if_pos (by simp [q])]
          have no : ¬ btr T G k (r - 1) = true → (some 0 : Option Int32) = some (if (decide (r = 0) || btr T G k (r - 1)) = true then 1 else 0) := fun q => by rw [if_neg (by simp [q, h0])]
          by_cases c1 : lkc T G (r - 1) < lkc T G k
          · exact it_p (nI_lt c1 (by omega)) (yes (by unfold btr; rw [lxb_i]; omega))
          refine it_n (nI_nlt (by omega) (by omega)) ?_
          by_cases c2 : lkc T G k = lkc T G (r - 1)
          · refine it_p (by rw [← c2]; rfl) ?_
            by_cases c3 : ulc T G k < ulc T G (r - 1)
            · exact it_p (nI_lt c3 (by omega)) (yes (by unfold btr; rw [lxb_i]; omega))
            refine it_n (nI_nlt (by omega) (by omega)) ?_
            by_cases c4 : ulc T G k = ulc T G (r - 1)
            · refine it_p (by rw [← c4]; rfl) (bnd_s (er_m hT hg hk (by omega)) ?_)
              by_cases c5 : erb T k (r - 1) = true
              · rw [if_pos c5]
                refine it_n (by decide) (yes ?_)
                rw [erb_i] at c5
                unfold erl at c5
                unfold btr
                rw [lxb_i]
                omega
              · rw [if_neg c5]
                refine it_p rfl (no ?_)
                rw [erb_i] at c5
                unfold erl at c5
                unfold btr
                rw [lxb_i]
                omega
            · exact it_n (fun q => c4 ((nI_eq (by omega) (by omega)).mp q)) (no (by unfold btr; rw [lxb_i]; omega))
          · exact it_n (fun q => c2 ((nI_eq (by omega) (by omega)).mp q)) (no (by unfold btr; rw [lxb_i]; omega))
        · by_cases hd : (decide (r = 0) || btr T G k (r - 1)) = true
          · rw [if_pos hd, if_pos hd]
            refine it_n (by decide) ?_
            rw [nI_pred, sv_s, sv_s]
            rfl
          · rw [if_neg hd, if_neg hd]
            exact it_p rfl rfl
      · refine it_p (nI_lt (by unfold tot at *; omega) (by unfold tot at *; omega)) ?_
        rw [if_neg (by simp [fitw, hf])]
    · refine it_p rfl ?_
      rw [if_neg (by simp [fitw, df_t, hc])]
  · exact bnd_s (rd_v 0 rfl (by omega) (by omega) hT.1.2.1) (it_n (nI_nlt (Nat.le_refl _) (by omega)) rfl)
def frs (T : Tx) (W : Nat) : Nat := sel (fun o => W.testBit o) (erb T) (tiO T)
def wvl (T : Tx) (W : Nat) : Nat → Nat → Nat → Nat
  | 0, w, _ => w
  | k + 1, w, u => if nxt T W w u = 0 then w else wvl T W k (w ||| 2 ^ (nxt T W w u - 1)) (u + tot T (nxt T W w u - 1))
def wav (T : Tx) (W mo : Nat) : Nat := if frs T W = 0 then 0 else wvl T W (mo - 1) (2 ^ (frs T W - 1)) (tot T (frs T W - 1))
theorem nxt_p {T : Tx} {W w u : Nat} (h : nxt T W w u ≠ 0) : W.testBit (nxt T W w u - 1) = true ∧ w.testBit (nxt T W w u - 1) = false ∧ u + tot T (nxt T W w u - 1) ≤ tiU T ∧ nxt T W w u - 1 < tiO T := by
  obtain ⟨h1, h2⟩ := sel_p (tiO T) h
  unfold fitw at h1
  rw [Bool.and_eq_true, df_t, Bool.and_eq_true, decide_eq_true_eq, Bool.not_eq_true'] at h1
  exact ⟨h1.1.1, h1.1.2, h1.2, h2⟩
theorem frs_p {T : Tx} {W : Nat} (h : frs T W ≠ 0) : W.testBit (frs T W - 1) = true ∧ frs T W - 1 < tiO T := sel_p (tiO T) h
theorem pop_add {w o : Nat} (h : w.testBit o = false) (ho : o < 16) : pop (w ||| 2 ^ o) = pop w + 1 := by
  refine (ct_rm (p := fun i => (w ||| 2 ^ o).testBit i) (q := fun i => w.testBit i) (k := o) (fun i => ?_) ?_ ho).symm
  · rw [Nat.testBit_or, Nat.testBit_two_pow]
    by_cases e : i = o
    · rw [e, h]; simp
    · have : ¬ o = i := fun q => e q.symm
      simp [e, this]
  · rw [Nat.testBit_or, Nat.testBit_two_pow]; simp
theorem ga_l {I : MI} {t : Nat} {T : Tx} (hT : CT I t T) (hg : GT T) {W mo : Nat} (hW : W < 65536) (hmo : mo ≤ 8) : ∀ k w u c, c + k = mo → w < 65536 → u ≤ 60 → ∃ p, lp (b_X3_gather_34 t (nI W) (nI mo) I) (nI w, nI (tiU T) - nI u, nI c) = some p ∧ Sum.elim (fun rr => some rr) (fun q14 => some q14.1) p = some (nI (wvl T W k w u)) := by
  have hO := hg.2.1
  have hU := hg.2.2.2.2.1.2
  intro k
  induction k with
  | zero =>
    intro w u c hc hw hu
    exact ⟨_, lp_done (it_n (nI_nlt (by omega) (by omega)) rfl), rfl⟩
  | succ k ih =>
    intro w u c hc hw hu
    have e1 : ∀ {r : (Int32 × Int32 × Int32) ⊕ ((Int32) ⊕ (Int32 × Int32 × Int32))}, (if nI (nxt T W w u) - 1 = (-1) then some (.inr (.inl (nI w))) else (rd 16 (I (t + 7)) (nI (nxt T W w u) - 1)).bind fun v12 => some (.inl ((nI w ||| ((1 : Int32) <<< ((nI (nxt T W w u) - 1) &&& 31)), nI (tiU T) - nI u - v12, nI c + 1)))) = some r → b_X3_gather_34 t (nI W) (nI mo) I (nI w, nI (tiU T) - nI u, nI c) = some r := by
      intro r h
      unfold b_X3_gather_34
      refine it_p (nI_lt (by omega) (by omega)) (bnd_s (ia_c hT hg hw) ?_)
      dsimp only
      rw [b_df (Nat.lt_trans hW (by omega))]
      exact bnd_s (bj_c hT hg it_16 (df_16 hW) (by omega)) h
    have hle : nxt T W w u ≤ tiO T := sel_le _
    rw [wvl]
    by_cases h0 : nxt T W w u = 0
    · rw [if_pos h0]
      exact ⟨_, lp_done (e1 (it_p ((m1_e (by omega)).mpr h0) rfl)), rfl⟩
    · rw [if_neg h0]
      obtain ⟨p1, p2, p3, p4⟩ := nxt_p h0
      obtain ⟨p, hp, hq⟩ := ih (w ||| 2 ^ (nxt T W w u - 1)) (u + tot T (nxt T W w u - 1)) (c + 1) (by omega) (or_16 hw (tp_16 (by omega))) (by omega)
      refine ⟨p, lp_next (e1 (it_n (fun q => h0 ((m1_e (by omega)).mp q)) ?_)) hp, hq⟩
      rw [m1_p h0]
      refine bnd_s (rd_v _ rfl (by omega) (by omega) (hT.2.2.2.2.1 _ (by omega))) ?_
      rw [b_one (by omega), b_lor, nI_1, ← nI_add u]
      congr 4
      grind
theorem ga_c {I : MI} {t : Nat} {T : Tx} (hT : CT I t T) (hg : GT T) {W mo : Nat} (hW : W < 65536) (h1 : 1 ≤ mo) (hmo : mo ≤ 8) : f_X3_gather t (nI W) (nI mo) I = some (nI (wav T W mo)) := by
  have hO := hg.2.1
  have hU := hg.2.2.2.2.1.2
  unfold f_X3_gather
  have hfo : f_X3_earliest t (nI W) I = some (nI (frs T W) - 1) := fo_c hT hg hW
  refine bnd_s hfo ?_
  have hle : frs T W ≤ tiO T := sel_le _
  unfold wav
  by_cases h0 : frs T W = 0
  · rw [if_pos h0]
    exact it_p ((m1_e (by omega)).mpr h0) rfl
  · rw [if_neg h0]
    obtain ⟨p1, p2⟩ := frs_p h0
    have ht := (hg.2.2.2.2.2.2.2.2.1 (frs T W - 1) (by omega)).1
    refine it_n (fun q => h0 ((m1_e (by omega)).mp q)) ?_
    rw [m1_p h0]
    refine bnd_s (rd_v _ rfl (by omega) (by omega) (hT.2.2.2.2.1 _ (by omega))) ?_
    rw [hT.1.2.2.2.2, b_one (by omega)]
    obtain ⟨p, hp, hq⟩ := ga_l hT hg hW hmo (mo - 1) (2 ^ (frs T W - 1)) (tot T (frs T W - 1)) 1 (by omega) (tp_16 (by omega)) (by omega)
    exact bnd_s hp hq
theorem wo_l {K : MI} {m : Nat} {J : MJ} {T : Tx} (hT : MT K m T) (hg : GT T) {W mo : Nat} (hW : W < 65536) (hmo : mo ≤ 8) : ∀ k w u o, pop w + 1 + k = mo → w < 65536 → o < tiO T → w.testBit o = false → u + tot T o ≤ 60 → ∃ p, lp (b_X5_waveOf_18 m (nI W) (nI mo) J K) (nI o, nI w, nI u) = some p ∧ p.2.1 = nI (wvl T W k (w ||| 2 ^ o) (u + tot T o)) := by
  have hO := hg.2.1
  have hU := hg.2.2.2.2.1.2
  intro k
  induction k with
  | zero =>
    intro w u o hc hw ho hb hu
    have hp := pop_add hb (by omega)
    refine ⟨(-1, nI (w ||| 2 ^ o), nI (u + tot T o)), lp_next (s' := (-1, nI (w ||| 2 ^ o), nI (u + tot T o))) ?_ (lp_done (it_p (by show (-1 : Int32) < 0; decide) rfl)), rfl⟩
    refine it_n (nI_pos (by omega)) (bnd_s (mn_s hT.2.2.2 (by omega)) ?_)
    dsimp only
    rw [b_one (by omega), b_lor]
    refine bnd_s (c1_s (or_16 hw (tp_16 (by omega)))) (bnd_s (it_n (nI_nlt (by omega) (by omega)) rfl) ?_)
    rw [nI_add]
    rfl
  | succ k ih =>
    intro w u o hc hw ho hb hu
    have hp := pop_add hb (show o < 16 by omega)
    have hw' := or_16 hw (tp_16 (show o < 16 by omega))
    have st : b_X5_waveOf_18 m (nI W) (nI mo) J K (nI o, nI w, nI u) = some (.inl (nI (nxt T W (w ||| 2 ^ o) (u + tot T o)) - 1, nI (w ||| 2 ^ o), nI (u + tot T o))) := by
      refine it_n (nI_pos (by omega)) (bnd_s (mn_s hT.2.2.2 (by omega)) ?_)
      dsimp only
      rw [b_one (by omega), b_lor]
      refine bnd_s (c1_s hw') ?_
      rw [nI_add]
      refine bnd_s (it_p (nI_lt (by omega) (by omega)) (bnd_s (nt_m hT hg hw' hW (by show u + tot T o ≤ 864; omega)) rfl)) ?_
      rfl
    have hle : nxt T W (w ||| 2 ^ o) (u + tot T o) ≤ tiO T := sel_le _
    rw [wvl]
    by_cases h0 : nxt T W (w ||| 2 ^ o) (u + tot T o) = 0
    · rw [if_pos h0]
      exact ⟨_, lp_next st (lp_done (it_p ((m1_l (by omega)).mpr h0) rfl)), rfl⟩
    · rw [if_neg h0]
      obtain ⟨p1, p2, p3, p4⟩ := nxt_p h0
      obtain ⟨p, hq1, hq2⟩ := ih (w ||| 2 ^ o) (u + tot T o) (nxt T W (w ||| 2 ^ o) (u + tot T o) - 1) (by omega) hw' p4 p2 (by omega)
      rw [m1_p h0] at st
      exact ⟨p, lp_next st hq1, hq2⟩
theorem wo_m {K : MI} {m : Nat} {J : MJ} {T : Tx} (hT : MT K m T) (hg : GT T) {W mo : Nat} (hW : W < 65536) (h1 : 1 ≤ mo) (hmo : mo ≤ 8) : f_X5_waveOf m (nI W) (nI mo) J K = some (nI (wav T W mo)) := by
  have hO := hg.2.1
  have hU := hg.2.2.2.2.1.2
  have hle : frs T W ≤ tiO T := sel_le _
  unfold f_X5_waveOf
  by_cases hz : W = 0
  · refine it_p (by rw [hz]; rfl) ?_
    unfold wav
    rw [if_pos]
    · rfl
    · refine Classical.byContradiction (fun q => ?_)
      have := (frs_p q).1
      rw [hz, Nat.zero_testBit] at this
      cases this
  refine it_n (nI_ne0 (by omega) (by omega)) (bnd_s (fo_m hT hg hW) ?_)
  show (lp (b_X5_waveOf_18 m (nI W) (nI mo) J K) (nI (frs T W) - 1, 0, 0)).bind _ = _
  unfold wav
  by_cases h0 : frs T W = 0
  · rw [if_pos h0]
    exact bnd_s (lp_done (it_p ((m1_l (by omega)).mpr h0) rfl)) rfl
  · rw [if_neg h0, m1_p h0]
    obtain ⟨p1, p2⟩ := frs_p h0
    have ht := (hg.2.2.2.2.2.2.2.2.1 (frs T W - 1) (by omega)).1
    obtain ⟨p, hp, hq⟩ := wo_l (J := J) hT hg hW hmo (mo - 1) 0 0 (frs T W - 1) (by rw [show pop 0 = 0 by decide]; omega) (by omega) p2 (Nat.zero_testBit _) (by omega)
    rw [Nat.zero_or, Nat.zero_add] at hq
    exact bnd_s hp (congrArg some hq)
theorem wvl_t {T : Tx} {W : Nat} : ∀ k w u i, (wvl T W k w u).testBit i = true → w.testBit i = true ∨ W.testBit i = true := by
  intro k
  induction k with
  | zero => intro w u i h; exact Or.inl h
  | succ k ih =>
    intro w u i h
    rw [wvl] at h
    split at h
    · exact Or.inl h
    · rename_i h0
      rcases ih _ _ _ h with q | q
      · rw [Nat.testBit_or, Bool.or_eq_true, Nat.testBit_two_pow, decide_eq_true_eq] at q
        rcases q with q | q
        · exact Or.inl q
        · exact Or.inr (q ▸ (nxt_p h0).1)
      · exact Or.inr q
theorem wvl_s {T : Tx} {W : Nat} : ∀ k w u i, w.testBit i = true → (wvl T W k w u).testBit i = true := by
  intro k
  induction k with
  | zero => intro w u i h; exact h
  | succ k ih =>
    intro w u i h
    rw [wvl]
    split
    · exact h
    · exact ih _ _ _ (by rw [Nat.testBit_or, h]; rfl)
theorem wav_t {T : Tx} {W mo i : Nat} (h : (wav T W mo).testBit i = true) : W.testBit i = true := by
  unfold wav at h
  split at h
  · rw [Nat.zero_testBit] at h; cases h
  · rename_i h0
    rcases wvl_t _ _ _ _ h with q | q
    · rw [Nat.testBit_two_pow, decide_eq_true_eq] at q
      exact q ▸ (frs_p h0).1
    · exact q
theorem wav_lt {T : Tx} {W mo : Nat} (hW : W < 65536) : wav T W mo < 65536 := Nat.lt_of_le_of_lt (Nat.le_of_testBit (fun i h => wav_t h)) hW
theorem wav_ne {T : Tx} {W mo : Nat} (h : frs T W ≠ 0) : (wav T W mo).testBit (frs T W - 1) = true := by
  unfold wav
  rw [if_neg h]
  exact wvl_s _ _ _ _ (by rw [Nat.testBit_two_pow]; simp)
theorem frs_ne {T : Tx} {W : Nat} (h0 : W ≠ 0) (h : ∀ i, W.testBit i = true → i < tiO T) : frs T W ≠ 0 := by
  intro q
  refine h0 (Nat.eq_of_testBit_eq (fun i => ?_))
  rw [Nat.zero_testBit]
  cases hb : W.testBit i
  · rfl
  · rw [← hb]
    exact sel_0 (erb_s T) q i (h i hb)
