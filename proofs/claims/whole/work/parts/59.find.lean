/-! best: the class -/
theorem CPk.f2 {I I' : MI} {p : Nat} {T : Tx} {A : Fl} {w : Nat} {l : List Nat} (h : CPk I p T A w l) (e : ∀ a, a ≠ p + 4 → a ≠ p + 5 → a ≠ p + 6 → I' a = I a) : CPk I' p T A w l := by
  unfold CPk at *
  rw [e p (by omega) (by omega) (by omega), e (p + 1) (by omega) (by omega) (by omega), e (p + 2) (by omega) (by omega) (by omega), e (p + 3) (by omega) (by omega) (by omega), e (p + 7) (by omega) (by omega) (by omega), e (p + 8) (by omega) (by omega) (by omega)]
  exact h
section Fb
variable {T : Tx} {A : Fl} {w : Nat} {b l : List Nat} {I : MI} {p t : Nat}
theorem s64 {n S : Nat} (hn : n ≤ 6) (h : S < 2 ^ n) : S < 64 := Nat.lt_of_lt_of_le h (show 2 ^ n ≤ 2 ^ 6 from Nat.pow_le_pow_right (by omega) hn)
theorem or_n {n S i : Nat} (h : S < 2 ^ n) (hi : i < n) : S ||| 2 ^ i < 2 ^ n := Nat.or_lt_two_pow h (Nat.pow_lt_pow_right (by omega) hi)
theorem nb_c (hT : GT T) (cT : CT I t T) (cP : CPk I p T A w l) (hbl : b.length = l.length) (h6 : b.length ≤ 6) (hb10 : ∀ i, i ∈ b → i < 10) (cB : lsr (I (p + 6)) 0 b) {S i k : Nat} (hS : S < 2 ^ b.length) (hi : i < b.length) (hL : I (p + 5) (S ||| 2 ^ i) = nI (lst T A w b k (S ||| 2 ^ i))) (hk : lst T A w b k (S ||| 2 ^ i) ≤ 16) : f_X1_needsBy p t (nI S) (nI i) I = some (nI (vl T A w b k S i)) := by
  have h64 := s64 h6 hS
  have h64' := s64 h6 (or_n hS hi)
  unfold f_X1_needsBy
  refine bnd_s (lp_fs (fun j => (nI (ims b S j), nI j)) b.length (r := (nI (ims b S b.length), nI b.length)) (fun j hj => ?_) ?_) ?_
  · obtain ⟨c, hc⟩ := ls_get hj
    have hc10 := hb10 c (List.mem_of_getElem? hc)
    have f := cB j c hc
    rw [Nat.zero_add] at f
    have hgd : b.getD j 0 = c := by rw [List.getD_eq_getElem?_getD, hc]; rfl
    refine it_p (by rw [cP.2.1]; exact nI_lt (by omega) (by omega)) (bnd_s (hb_s (by omega) (by omega)) ?_)
    dsimp only
    rw [ims, hgd]
    cases hbt : S.testBit j
    · exact bnd_s (it_p (by simp) rfl) (by rw [nI_1]; rfl)
    · refine bnd_s (it_n (by simp) (bnd_s (rd_v j rfl (by omega) (by omega) f) rfl)) ?_
      rw [b_one (by omega), b_lor, nI_1]
      rfl
  · exact it_n (by rw [cP.2.1]; exact nI_nlt (by omega) (by omega)) rfl
  · obtain ⟨c, hc⟩ := ls_get hi
    have hc10 := hb10 c (List.mem_of_getElem? hc)
    have f := cB i c hc
    rw [Nat.zero_add] at f
    have hgd : b.getD i 0 = c := by rw [List.getD_eq_getElem?_getD, hc]; rfl
    have h16 : mxE T A w (ims b S b.length) c (tiO T) ≤ 16 := mxE_le hT _
    refine bnd_s (rd_v i rfl (by omega) (by omega) f) (bnd_s (pe_c hT cT cP hc10) ?_)
    rw [b_one (by omega), b_lor]
    refine bnd_s (rd_v _ rfl (by omega) (by omega) hL) ?_
    rw [imax_n (by omega) (by omega)]
    unfold vl pkk
    rw [hgd]
theorem fi_c (hT : GT T) (cT : CT I t T) (cP : CPk I p T A w l) (hd : t + 10 ≤ p ∨ p + 9 ≤ t) (hbl : b.length = l.length) (h6 : b.length ≤ 6) (hb10 : ∀ i, i ∈ b → i < 10) (cB : lsr (I (p + 6)) 0 b) {S k : Nat} (hS : S < 2 ^ b.length) (hk : uc b.length S = k + 1) (hL : ∀ i, i < b.length → S.testBit i = false → I (p + 5) (S ||| 2 ^ i) = nI (lst T A w b k (S ||| 2 ^ i))) : Ok (lp (b_X1_findBest_55 p t (nI S)) (0, mst I (p + 5) S (nI (b.length + 16)))) (fun s => s.2 (p + 5) = pu (I (p + 5)) S (nI (lst T A w b (k + 1) S)) ∧ ∀ a, a ≠ p + 5 → s.2 a = I a) := by
  have h64 := s64 h6 hS
  refine ok_up b.length (fun j s => ∃ I', s = (nI j, I') ∧ I' (p + 5) = pu (I (p + 5)) S (nI (mnl (fun i => max (pkk T A w b S i) (lst T A w b k (S ||| 2 ^ i))) (fun i => !S.testBit i) (b.length + 16) j)) ∧ ∀ a, a ≠ p + 5 → I' a = I a) (fun j s hj hs => ?_) (fun s hs => ?_) 0 _ (by omega) ⟨_, rfl, ms_r, fun a ha => mst_row _ _ _ ha⟩
  · obtain ⟨I', rfl, q1, q2⟩ := hs
    have cP' : CPk I' p T A w l := cP.f2 (fun a _ ha _ => q2 a ha)
    have cT' : CT I' t T := cT.fr (fun r hr => q2 _ (by omega))
    have hml := (mnl_le (f := fun i => max (pkk T A w b S i) (lst T A w b k (S ||| 2 ^ i))) (P := fun i => !S.testBit i) (d := b.length + 16) j).1
    refine ok_pos (by dsimp only; rw [q2 p (by omega), cP.2.1]; exact nI_lt (by omega) (by omega)) (ok_bs (hb_s (by omega) (by omega)) ?_)
    cases hbt : S.testBit j
    · have huc := uc_add hj hbt
      have hlb := lst_b (A := A) (w := w) (b := b) hT k (S ||| 2 ^ j) (by omega)
      have hvb := vl_b (A := A) (w := w) (b := b) hT hj hbt hk
      have hne : S ||| 2 ^ j ≠ S := fun q => by
        have : (S ||| 2 ^ j).testBit j = true := by rw [Nat.testBit_or, Nat.testBit_two_pow]; simp
        rw [q, hbt] at this
        cases this
      have hnb := nb_c (b := b) (i := j) (k := k) hT cT' cP' hbl h6 hb10 (by rw [q2 _ (by omega)]; exact cB) hS hj (by rw [q1, pu_n hne]; exact hL j hj hbt) hlb
      refine ok_bs (it_p (by simp) (bnd_s (rd_v (v := nI (mnl (fun i => max (pkk T A w b S i) (lst T A w b k (S ||| 2 ^ i))) (fun i => !S.testBit i) (b.length + 16) j)) S rfl (by omega) (by omega) (by dsimp only; rw [q1, pu_s])) (bnd_s hnb (bnd_s (wr_k S rfl (by omega) (by omega)) rfl)))) (ok_some ⟨_, by dsimp only; rw [nI_1], ?_, fun a ha => ?_⟩)
      · skip
        rw [ms_r, q1, pu_pu, imin_n (by omega) (by omega), mnl, if_pos (by rw [hbt]; rfl)]
        rfl
      · skip
        rw [mst_row _ _ _ ha]
        exact q2 a ha
    · refine ok_bs (it_n (by simp) rfl) (ok_some ⟨I', by dsimp only; rw [nI_1], ?_, q2⟩)
      rw [q1, mnl, if_neg (by rw [hbt]; simp)]
  · obtain ⟨I', rfl, q1, q2⟩ := hs
    exact ok_neg (by dsimp only; rw [q2 p (by omega), cP.2.1]; exact nI_nlt (by omega) (by omega)) (ok_some ⟨q1, q2⟩)
theorem uc_all {n : Nat} : uc n (2 ^ n - 1) = 0 := by
  refine Classical.byContradiction (fun q => ?_)
  obtain ⟨i, hi, hp⟩ := ct_ex (p := fun i => !(Nat.testBit (2 ^ n - 1) i)) (n := n) q
  rw [all_b hi] at hp
  cases hp
theorem uc_ne {n S : Nat} (h : S < 2 ^ n - 1) : uc n S ≠ 0 := by
  intro q
  have : S = 2 ^ n - 1 := by
    refine Nat.eq_of_testBit_eq (fun i => ?_)
    rw [Nat.testBit_two_pow_sub_one]
    by_cases hi : i < n
    · have := ct_0 (p := fun i => !S.testBit i) q i hi
      simp [hi]
      simpa using this
    · rw [Nat.testBit_lt_two_pow (Nat.lt_of_lt_of_le (show S < 2 ^ n by omega) (Nat.pow_le_pow_right (by omega) (by omega)))]
      simp [hi]
  omega
theorem uc_0 {n : Nat} : uc n 0 = n := by
  have : ∀ k, ct (fun i => !(Nat.testBit 0 i)) k = k := by
    intro k
    induction k with
    | zero => rfl
    | succ k ih => rw [ct, ih, Nat.zero_testBit]; rfl
  exact this n
theorem fl_c (hT : GT T) (cT : CT I t T) (cP : CPk I p T A w l) (hd : t + 10 ≤ p ∨ p + 9 ≤ t) (hbl : b.length = l.length) (h6 : b.length ≤ 6) (hb10 : ∀ i, i ∈ b → i < 10) (cB : lsr (I (p + 6)) 0 b) : Ok (lp (b_X1_findBest_35 p t) (nI (2 ^ b.length - 1) - 1, mst I (p + 5) (2 ^ b.length - 1) 0)) (fun s => (∀ S, S < 2 ^ b.length → s.2 (p + 5) S = nI (lst T A w b (uc b.length S) S)) ∧ ∀ a, a ≠ p + 5 → s.2 a = I a) := by
  have hp2 := Nat.pow_pos (n := b.length) (show 0 < 2 by omega)
  have h64 : 2 ^ b.length ≤ 2 ^ 6 := Nat.pow_le_pow_right (by omega) h6
  refine ok_lp (fun n s => ∃ I', s = (nI n - 1, I') ∧ n ≤ 2 ^ b.length - 1 ∧ (∀ S, n ≤ S → S < 2 ^ b.length → I' (p + 5) S = nI (lst T A w b (uc b.length S) S)) ∧ ∀ a, a ≠ p + 5 → I' a = I a) (fun n s hs => ?_) (2 ^ b.length - 1) _ ⟨_, rfl, Nat.le_refl _, fun S h1 h2 => ?_, fun a ha => mst_row _ _ _ ha⟩
  · obtain ⟨I', rfl, q0, q1, q2⟩ := hs
    show Ok (b_X1_findBest_35 p t (nI n - 1, I')) _
    by_cases hn : n = 0
    · subst hn
      exact ok_pos ((m1_l (by omega)).mpr rfl) (ok_some ⟨fun S hS => q1 S (by omega) hS, q2⟩)
    · have hS : n - 1 < 2 ^ b.length := by omega
      obtain ⟨k, hk⟩ : ∃ k, uc b.length (n - 1) = k + 1 := ⟨uc b.length (n - 1) - 1, by have := uc_ne (n := b.length) (S := n - 1) (by omega); omega⟩
      have cP' : CPk I' p T A w l := cP.f2 (fun a _ ha _ => q2 a ha)
      have cT' : CT I' t T := cT.fr (fun r hr => q2 _ (by omega))
      refine ok_neg (fun q => hn ((m1_l (by omega)).mp q)) ?_
      dsimp only
      rw [m1_p hn]
      refine ok_wr (n - 1) rfl (by omega) (by omega) ?_
      have e16 : I' p 1 + 16 = nI (b.length + 16) := by rw [q2 p (by omega), cP.2.1, hbl]; exact nI_add _ 16
      rw [e16]
      refine ok_bind (fi_c hT cT' cP' hd hbl h6 hb10 (by rw [q2 _ (by omega)]; exact cB) hS hk (fun i hi hb => ?_)) (fun s hs => ok_some ⟨n - 1, by omega, s.2, ?_, by omega, fun S h1 h2 => ?_, fun a ha => (hs.2 a ha).trans (q2 a ha)⟩)
      · have huc := uc_add hi hb
        have hgt : n - 1 < n - 1 ||| 2 ^ i := by
          have hle : n - 1 ≤ n - 1 ||| 2 ^ i := Nat.left_le_or
          refine Nat.lt_of_le_of_ne hle (fun q => ?_)
          have : (n - 1 ||| 2 ^ i).testBit i = true := by rw [Nat.testBit_or, Nat.testBit_two_pow]; simp
          rw [← q, hb] at this
          cases this
        rw [q1 _ (by omega) (or_n hS hi), show uc b.length (n - 1 ||| 2 ^ i) = k by omega]
      · rw [show nI (n - 1) + (-1) = nI (n - 1) - 1 by grind]
      · rw [hs.1]
        by_cases e : S = n - 1
        · rw [e, pu_s, hk]
        · rw [pu_n e]
          exact q1 S (by omega) h2
  · obtain rfl : S = 2 ^ b.length - 1 := by omega
    rw [mst_self, uc_all]
    rfl
theorem fw_c (hT : GT T) (cT : CT I t T) (cP : CPk I p T A w l) (hbl : b.length = l.length) (h6 : b.length ≤ 6) (hb10 : ∀ i, i ∈ b → i < 10) (cB : lsr (I (p + 6)) 0 b) (cL : ∀ S, S < 2 ^ b.length → I (p + 5) S = nI (lst T A w b (uc b.length S) S)) {S k m : Nat} (hS : S < 2 ^ b.length) (hk : uc b.length S = k + 1) (hm : lst T A w b (k + 1) S ≤ m) (hm16 : m ≤ 16) : f_X1_firstWithin p t (nI S) (nI m) I = some (nI (nE (fun i => !S.testBit i && decide (vl T A w b k S i ≤ m)) b.length 0)) := by
  have h64 := s64 h6 hS
  obtain ⟨g1, g2, g3⟩ := gr_h hT hk hm
  obtain ⟨_, n2, n3, n4⟩ := nE_s (p := fun i => !S.testBit i && decide (vl T A w b k S i ≤ m)) b.length 0
  generalize nE (fun i => !S.testBit i && decide (vl T A w b k S i ≤ m)) b.length 0 = j at g1 g2 g3 n2 n3 n4 ⊢
  unfold f_X1_firstWithin
  have hnb : ∀ i, i < b.length → S.testBit i = false → f_X1_needsBy p t (nI S) (nI i) I = some (nI (vl T A w b k S i)) := by
    intro i hi hb
    have huc := uc_add hi hb
    exact nb_c hT cT cP hbl h6 hb10 cB hS hi (by rw [cL _ (or_n hS hi), show uc b.length (S ||| 2 ^ i) = k by omega]) (lst_b hT k _ (by omega))
  refine bnd_s (a := .inl (nI j)) (lp_seq (fun i => nI i) j (fun i hi => ?_) (lp_done ?_)) rfl
  · have hq := n4 i (by omega) hi
    refine it_p (by rw [cP.2.1]; exact nI_lt (by omega) (by omega)) (bnd_s (hb_s (by omega) (by omega)) ?_)
    cases hb : S.testBit i
    · have hv := vl_b (A := A) (w := w) (b := b) hT (show i < b.length by omega) hb hk
      rw [hb] at hq
      have hq' : ¬ vl T A w b k S i ≤ m := by simpa using hq
      refine it_p (by simp) (bnd_s (hnb i (by omega) hb) (it_p (nI_lt (by omega) (by omega)) ?_))
      rw [nI_1]
    · refine it_n (by simp) ?_
      rw [nI_1]
  · refine it_p (by rw [cP.2.1]; exact nI_lt (by omega) (by omega)) (bnd_s (hb_s (by omega) (by omega)) ?_)
    rw [g2]
    exact it_p (by simp) (bnd_s (hnb j g1 g2) (it_n (nI_nlt g3 (by omega)) rfl))
theorem fb_c (hT : GT T) (cT : CT I t T) (cP : CPk I p T A w l) (hd : t + 10 ≤ p ∨ p + 9 ≤ t) (h6 : l.length ≤ 6) (hl10 : ∀ i, i ∈ l → i < 10) (hnd : l.Nodup) : Ok (f_X1_findBest p t I) (fun r => ∃ b, b.length = l.length ∧ b.Pairwise (plt id) ∧ (∀ i, i ∈ b ↔ i ∈ l) ∧ r.1 = nI (lst T A w b b.length 0) ∧ (∀ j c, (gr T A w b (lst T A w b b.length 0) b.length 0)[j]? = some c → r.2 (p + 4) j = nI (b.getD c 0)) ∧ ∀ a, a < p ∨ p + 9 ≤ a → r.2 a = I a) := by
  unfold f_X1_findBest
  refine ok_neg (by rw [cP.2.1]; exact nI_nlt (a := 6) (by omega) (by omega)) (ok_bind (sn_c (by omega) hl10 hnd cP.2.1 cP.2.2.1) (fun I1 hI1 => ?_))
  obtain ⟨b, b1, b2, b3, b4, b5⟩ := hI1
  have hb10 : ∀ i, i ∈ b → i < 10 := fun i hi => hl10 i ((b3 i).mp hi)
  have cP1 : CPk I1 p T A w l := cP.f2 (fun a _ _ ha => b5 a ha)
  have cT1 : CT I1 t T := cT.fr (fun r hr => b5 _ (by omega))
  have hp2 := Nat.pow_pos (n := b.length) (show 0 < 2 by omega)
  have h64 : 2 ^ b.length ≤ 2 ^ 6 := Nat.pow_le_pow_right (by omega) (by omega)
  have e1 : ((1 : Int32) <<< (I1 p 1 &&& 31)) - 1 = nI (2 ^ b.length - 1) := by rw [cP1.2.1, ← b1, b_one (by omega), m1_p (by omega)]
  rw [e1]
  refine ok_wr (2 ^ b.length - 1) rfl (by omega) (by omega) (ok_nm (ok_bind (fl_c hT cT1 cP1 hd b1 (by omega) hb10 b4) (fun s hs => ?_)))
  obtain ⟨s1, I2⟩ := s
  obtain ⟨c1, c2⟩ := hs
  dsimp only at c1 c2
  have cP2 : CPk I2 p T A w l := cP1.f2 (fun a _ ha _ => c2 a ha)
  have cT2 : CT I2 t T := cT1.fr (fun r hr => c2 _ (by omega))
  have cB2 : lsr (I2 (p + 6)) 0 b := by rw [c2 _ (by omega)]; exact b4
  have hm16 := lst_b (A := A) (w := w) (b := b) hT b.length 0 uc_0
  have hL0 : I2 (p + 5) 0 = nI (lst T A w b b.length 0) := by rw [c1 0 hp2, uc_0]
  generalize hmm : lst T A w b b.length 0 = m at hm16 hL0 ⊢
  refine ok_bind (P := fun s : Int32 × Int32 × MI => (∀ j c, (gr T A w b m b.length 0)[j]? = some c → s.2.2 (p + 4) j = nI (b.getD c 0)) ∧ ∀ a, a ≠ p + 4 → s.2.2 a = I2 a) (ok_up b.length (fun j s => ∃ S I' dn, s = (nI S, nI j, I') ∧ S < 2 ^ b.length ∧ uc b.length S = b.length - j ∧ lst T A w b (b.length - j) S ≤ m ∧ gr T A w b m b.length 0 = dn ++ gr T A w b m (b.length - j) S ∧ dn.length = j ∧ (∀ k c, dn[k]? = some c → I' (p + 4) k = nI (b.getD c 0)) ∧ ∀ a, a ≠ p + 4 → I' a = I2 a) (fun j s hj hs => ?_) (fun s hs => ?_) 0 _ (by omega) ⟨0, I2, [], rfl, hp2, uc_0, by rw [Nat.sub_zero]; omega, rfl, rfl, fun k c hk => by simp at hk, fun _ _ => rfl⟩) (fun s hs => ?_)
  · obtain ⟨S, I', dn, rfl, q1, q2, q3, q4, q5, q6, q7⟩ := hs
    have cP' : CPk I' p T A w l := cP2.f2 (fun a ha _ _ => q7 a ha)
    have cT' : CT I' t T := cT2.fr (fun r hr => q7 _ (by omega))
    obtain ⟨k, hk⟩ : ∃ k, b.length - j = k + 1 := ⟨b.length - j - 1, by omega⟩
    rw [hk] at q2 q3 q4
    have hS64 := s64 (by omega) q1
    have hfw := fw_c (b := b) hT cT' cP' b1 (by omega) hb10 (by rw [q7 _ (by omega)]; exact cB2) (fun S hS => by rw [q7 _ (by omega)]; exact c1 S hS) q1 q2 q3 hm16
    obtain ⟨g1, g2, g3⟩ := gr_h hT q2 q3
    rw [gr] at q4
    generalize nE (fun i => !S.testBit i && decide (vl T A w b k S i ≤ m)) b.length 0 = f at hfw g1 g2 g3 q4
    obtain ⟨c, hc⟩ := ls_get g1
    have hgd : b.getD f 0 = c := by rw [List.getD_eq_getElem?_getD, hc]; rfl
    have ff := cB2 f c hc
    rw [Nat.zero_add] at ff
    have huc := uc_add g1 g2
    refine ok_pos (by dsimp only; rw [q7 _ (by omega), cP2.2.1]; exact nI_lt (by omega) (by omega)) (ok_bs (rd_v (v := nI m) 0 rfl (by omega) (by omega) (by dsimp only; rw [q7 _ (by omega)]; exact hL0)) (ok_bs hfw (ok_bs (rd_v (v := nI c) f rfl (by omega) (by omega) (by dsimp only; rw [q7 _ (by omega)]; exact ff)) (ok_wr j rfl (by omega) (by omega) (ok_some ⟨S ||| 2 ^ f, mst I' (p + 4) j (nI c), dn ++ [f], ?_, or_n q1 g1, by omega, ?_, ?_, ?_, fun i d hi => ?_, fun a ha => ?_⟩)))))
    · dsimp only
      rw [b_one (by omega), b_lor, nI_1]
    · have : lst T A w b k (S ||| 2 ^ f) ≤ vl T A w b k S f := Nat.le_max_right _ _
      rw [show b.length - (j + 1) = k by omega]
      omega
    · rw [q4, show b.length - (j + 1) = k by omega, List.append_assoc]
      rfl
    · rw [List.length_append, List.length_singleton]
      omega
    · rw [ms_r]
      rcases ls_app hi with r | ⟨r1, r2⟩
      · have := ls_lt r
        rw [pu_n (by omega)]
        exact q6 i d r
      · rw [r1, q5, pu_s, r2, hgd]
    · rw [mst_row _ _ _ ha]
      exact q7 a ha
  · obtain ⟨S, I', dn, rfl, q1, q2, q3, q4, q5, q6, q7⟩ := hs
    refine ok_neg (by dsimp only; rw [q7 _ (by omega), cP2.2.1]; exact nI_nlt (by omega) (by omega)) (ok_some ⟨?_, q7⟩)
    rw [Nat.sub_self, gr, List.append_nil] at q4
    rw [q4]
    exact q6
  · obtain ⟨d1, d2⟩ := hs
    refine ok_bs (rd_v (v := nI m) 0 rfl (by omega) (by omega) (by rw [d2 _ (by omega)]; exact hL0)) (ok_some ⟨b, b1, b2, b3, ?_, ?_, fun a ha => ?_⟩)
    · rw [hmm]
    · rw [hmm]; exact d1
    · rw [d2 a (by omega), c2 a (by omega)]
      exact b5 a (by omega)
end Fb
