/-! numbers and names: the reference -/
def Rf (m : Nat) (K : MI) (J : MJ) (K' : MI) (J' : MJ) : Prop := (∀ j, j < 4 ∨ 11 < j → K' m j = K m j) ∧ (∀ b, b ≠ m → K' b = K b) ∧ (∀ j, j ≠ 8 → j ≠ 26 → J' m j = J m j) ∧ ∀ b, b ≠ m → J' b = J b
theorem Rf.rf {m : Nat} {K : MI} {J : MJ} : Rf m K J K J := ⟨fun _ _ => rfl, fun _ _ => rfl, fun _ _ _ => rfl, fun _ _ => rfl⟩
theorem Rf.tr {m : Nat} {K K' K'' : MI} {J J' J'' : MJ} (h : Rf m K J K' J') (h' : Rf m K' J' K'' J'') : Rf m K J K'' J'' := ⟨fun j hj => (h'.1 j hj).trans (h.1 j hj), fun b hb => (h'.2.1 b hb).trans (h.2.1 b hb), fun j h1 h2 => (h'.2.2.1 j h1 h2).trans (h.2.2.1 j h1 h2), fun b hb => (h'.2.2.2 b hb).trans (h.2.2.2 b hb)⟩
theorem Rf.md {m : Nat} {K K' : MI} {J J' : MJ} {B : Bd} (h : Rf m K J K' J') (hB : MBd K J m B) : MBd K' J' m B := hB.fr (fun r h1 h2 => h.2.1 _ (by omega)) ⟨h.1 24 (by omega), h.1 25 (by omega), h.1 12 (by omega)⟩ ⟨h.2.2.2 _ (by omega), h.2.2.2 _ (by omega)⟩
theorem Rf.tp {m n : Nat} {K K' : MI} {J J' : MJ} {bt : Nat → Nat} (h : Rf m K J K' J') (hT : Tape K (m + 1) n bt) : Tape K' (m + 1) n bt := hT.fr (h.2.1 _ (by omega))
/-- a fault as the reference keeps it -/
def MFt (K : MI) (m F : Nat) : Prop := 8 * K m 10 + K m 9 = nI F
theorem i_10 : ¬ (1 : Int32) = 0 := by decide
section Nmm
variable {m n : Nat} {bt : Nat → Nat} {J : MJ}
theorem mu_y {K : MI} {x k : Int32} (h9 : K m 9 = 0) (hx : ¬ x = 0) : f_X5_must m x k J K = some (1, K) := by
  unfold f_X5_must
  exact bnd_s (it_p h9 (it_n hx rfl)) (bnd_s (it_p h9 rfl) rfl)
theorem mu_n {K : MI} {k : Nat} (h9 : K m 9 = 0) (hk : 0 < k) (hk9 : k < 9) : f_X5_must m 0 (nI k) J K = some (0, mst (mst K m 9 (nI k)) m 10 (K m 4)) := by
  unfold f_X5_must
  refine bnd_s (it_p h9 (it_p rfl (bnd_s rfl (bnd_s rfl rfl)))) ?_
  rw [mst_ne _ _ (show m ≠ m ∨ 4 ≠ 9 by omega)]
  refine bnd_s (it_n ?_ rfl) rfl
  rw [mst_ne _ _ (Or.inr (by omega)), mst_self]
  exact nI_ne0 hk (by omega)
theorem mu_f {K : MI} {k p : Nat} (h4 : K m 4 = nI p) : MFt (mst (mst K m 9 (nI k)) m 10 (K m 4)) m (8 * p + k) ∧ Rf m K J (mst (mst K m 9 (nI k)) m 10 (K m 4)) J := by
  refine ⟨?_, fun j hj => by rw [mst_ne _ _ (Or.inr (by omega)), mst_ne _ _ (Or.inr (by omega))], fun b hb => by rw [mst_row _ _ _ hb, mst_row _ _ _ hb], fun _ _ _ => rfl, fun _ _ => rfl⟩
  unfold MFt
  rw [mst_self, mst_ne _ _ (Or.inr (by omega)), mst_self, h4, show (8 : Int32) = nI 8 from rfl, nI_mul, nI_add]
theorem st_r {K : MI} {p : Nat} (hT : Tape K (m + 1) n bt) (hp : p ≤ n) (h3 : K m 3 = nI n) (h5 : K m 5 = nI p) (h9 : K m 9 = 0) : Ok (f_X5_steps m J K) (fun r => MK r.2 r.1 m n (tok bt n p) ∧ r.2 m 9 = 0 ∧ Rf m K J r.2 r.1 ∧ (∀ j, 7 < j → r.2 m j = K m j) ∧ ∀ j, j ≠ 8 → r.1 m j = J m j) := by
  refine (st_k (J := J) hT hp h3 h5).im (fun r hr => ?_)
  obtain ⟨r1, r2, r3, r4, r5⟩ := hr
  exact ⟨r1, (r2 9 (by omega)).trans h9, ⟨fun j hj => r2 j (by omega), r3, fun j h1 _ => r4 j h1, r5⟩, fun j hj => r2 j (by omega), r4⟩
theorem tn_m {K : MI} {t : Tk} {lo hi : Nat} (hT : Tape K (m + 1) n bt) (hk : MK K J m n t) (hg : GK n t) (h9 : K m 9 = 0) (hh : hi ≤ 99) (hl : lo ≤ hi) : Ok (f_X5_takesNumber m (nI lo) (nI hi) J K) (fun r => Rf m K J r.2.2 r.2.1 ∧ (∀ j, j ≠ 8 → r.2.1 m j = J m j) ∧ Sum.elim (fun F => r.1 = 0 ∧ MFt r.2.2 m F) (fun w => r.1 = 1 ∧ MK r.2.2 r.2.1 m n w.2 ∧ r.2.2 m 9 = 0 ∧ r.2.2 m 11 = nI w.1) (pN bt n lo hi t)) := by
  have h600 := hT.1
  obtain ⟨g1, g2, g3, g4, g5, g6, g7⟩ := hg
  obtain ⟨k3, k4, k5, k6, k7, k8⟩ := hk
  unfold f_X5_takesNumber pN
  by_cases c1 : t.2.2.1 = 2
  · rw [if_pos c1]
    have h99 := g5 c1
    have e7 := k7 c1
    refine ok_bs (it_p (by rw [k6, c1]; rfl) rfl) (ok_bs (mu_y h9 (by decide)) (ok_neg i_10 ?_))
    dsimp only
    rw [e7]
    refine ok_bs (wi_32 _ _ _) ?_
    by_cases c2 : t.2.2.2 < lo ∨ hi < t.2.2.2
    · rw [if_pos c2]
      have hz : (if nI t.2.2.2 < nI lo then (0 : Int32) else if nI hi < nI t.2.2.2 then 0 else 1) = 0 := by
        rcases c2 with q | q
        · rw [if_pos (nI_lt q (by omega))]
        · by_cases q2 : nI t.2.2.2 < nI lo
          · rw [if_pos q2]
          · rw [if_neg q2, if_pos (nI_lt q (by omega))]
      rw [hz]
      refine ok_bs (mu_n (k := 4) h9 (by omega) (by omega)) (ok_pos rfl (ok_some ?_))
      have := mu_f (J := J) (k := 4) k4
      exact ⟨this.2, fun _ _ => rfl, rfl, this.1⟩
    · rw [if_neg c2]
      have hz : (if nI t.2.2.2 < nI lo then (0 : Int32) else if nI hi < nI t.2.2.2 then 0 else 1) = 1 := by
        rw [if_neg (nI_nlt (by omega) (by omega)), if_neg (nI_nlt (by omega) (by omega))]
      rw [hz]
      refine ok_bs (mu_y h9 (by decide)) (ok_neg i_10 (ok_wq (fun K1 hK1 => ?_)))
      dsimp only at hK1
      have e1 : Rf m K J K1 J := by
        rw [hK1]
        exact ⟨fun j hj => mst_ne _ _ (Or.inr (by omega)), fun b hb => mst_row _ _ _ hb, fun _ _ _ => rfl, fun _ _ => rfl⟩
      refine ok_bind (st_r (J := J) (e1.tp hT) g2 (by rw [hK1, mst_ne _ _ (Or.inr (by omega))]; exact k3) (by rw [hK1, mst_ne _ _ (Or.inr (by omega))]; exact k5) (by rw [hK1, mst_ne _ _ (Or.inr (by omega))]; exact h9)) (fun r hr => ok_some ?_)
      obtain ⟨r1, r2, r3, r4, r5⟩ := hr
      refine ⟨e1.tr r3, r5, rfl, r1, r2, ?_⟩
      show r.2 m 11 = nI t.2.2.2
      rw [r4 11 (by omega), hK1, mst_self]
      exact e7
  · rw [if_neg c1]
    refine ok_bs (it_n (fun q => c1 ((nI_eq (b := 2) (by omega) (by omega)).mp (k6.symm.trans q))) rfl) (ok_bs (mu_n (k := 1) h9 (by omega) (by omega)) (ok_pos rfl (ok_some ?_)))
    have := mu_f (J := J) (k := 1) k4
    exact ⟨this.2, fun _ _ => rfl, rfl, this.1⟩
def cst (i : Nat) : Nat := if i = 0 then 8892595 else if i = 1 then 755397 else if i = 2 then 315565 else 16322738
theorem sp_0 : f_X5_spelled 0 = some (lN 8892595) := by decide +kernel
theorem sp_1 : f_X5_spelled 1 = some (lN 755397) := by decide +kernel
theorem sp_2 : f_X5_spelled 2 = some (lN 315565) := by decide +kernel
theorem sp_3 : f_X5_spelled 3 = some (lN 16322738) := by decide +kernel
theorem sp_i {i : Nat} (h : i < 4) : f_X5_spelled i = some (lN (cst i)) := by
  rcases (show i = 0 ∨ i = 1 ∨ i = 2 ∨ i = 3 by omega) with rfl | rfl | rfl | rfl
  · exact sp_0
  · exact sp_1
  · exact sp_2
  · exact sp_3
theorem cst_b (i : Nat) : cst i < 2 ^ 30 := by
  unfold cst
  split
  · omega
  · split
    · omega
    · split <;> omega
theorem is_m {K : MI} {t : Tk} {i : Nat} (hk : MK K J m n t) (hg : GK n t) (hi : i < 4) : f_X5_is m i J K = some (if t.2.2.1 = 1 ∧ t.2.2.2 = cst i then 1 else 0) := by
  obtain ⟨g1, g2, g3, g4, g5, g6, g7⟩ := hg
  obtain ⟨k3, k4, k5, k6, k7, k8⟩ := hk
  have hb := cst_b i
  unfold f_X5_is
  by_cases c1 : t.2.2.1 = 1
  · refine bnd_s (a := if t.2.2.1 = 1 ∧ t.2.2.2 = cst i then 1 else 0) (it_p (by rw [k6, c1]; rfl) (bnd_s (sp_i hi) ?_)) (by split <;> rfl)
    rw [k8 c1]
    by_cases c2 : t.2.2.2 = cst i
    · rw [if_pos (show t.2.2.1 = 1 ∧ t.2.2.2 = cst i from ⟨c1, c2⟩)]
      exact it_p (by rw [c2]) rfl
    · rw [if_neg (show ¬ (t.2.2.1 = 1 ∧ t.2.2.2 = cst i) from fun q => c2 q.2)]
      exact it_n (fun q => c2 ((lN_eq (by omega) (by omega)).mp q)) rfl
  · rw [if_neg (show ¬ (t.2.2.1 = 1 ∧ t.2.2.2 = cst i) from fun q => c1 q.1)]
    exact bnd_s (it_n (fun q => c1 ((nI_eq (b := 1) (by omega) (by omega)).mp (k6.symm.trans q))) rfl) rfl
theorem isn_m {K : MI} {t : Tk} (hk : MK K J m n t) (hg : GK n t) : f_X5_isName m J K = some (if isN t then 1 else 0) := by
  have h0 := is_m (i := 0) hk hg (by omega)
  have h1 := is_m (i := 1) hk hg (by omega)
  have h2 := is_m (i := 2) hk hg (by omega)
  have h3 := is_m (i := 3) hk hg (by omega)
  have e0 : cst 0 = 8892595 := rfl
  have e1 : cst 1 = 755397 := rfl
  have e2 : cst 2 = 315565 := rfl
  have e3 : cst 3 = 16322738 := rfl
  rw [e0] at h0
  rw [e1] at h1
  rw [e2] at h2
  rw [e3] at h3
  obtain ⟨g1, g2, g3, g4, g5, g6, g7⟩ := hg
  obtain ⟨k3, k4, k5, k6, k7, k8⟩ := hk
  unfold f_X5_isName isN
  by_cases c0 : t.2.2.1 = 1
  · have r0 : K m 6 = 1 := by rw [k6, c0]; rfl
    by_cases c1 : t.2.2.2 = 8892595
    · exact bnd_s (it_p r0 (bnd_s h0 (it_n (by rw [if_pos ⟨c0, c1⟩]; decide) rfl))) (by simp [c1]; rfl)
    have n1 : (if t.2.2.1 = 1 ∧ t.2.2.2 = 8892595 then (1 : Int32) else 0) = 0 := if_neg (fun q => c1 q.2)
    by_cases c2 : t.2.2.2 = 755397
    · exact bnd_s (it_p r0 (bnd_s h0 (it_p n1 (bnd_s h1 (it_n (by rw [if_pos ⟨c0, c2⟩]; decide) rfl))))) (by simp [c2]; rfl)
    have n2 : (if t.2.2.1 = 1 ∧ t.2.2.2 = 755397 then (1 : Int32) else 0) = 0 := if_neg (fun q => c2 q.2)
    by_cases c3 : t.2.2.2 = 315565
    · exact bnd_s (it_p r0 (bnd_s h0 (it_p n1 (bnd_s h1 (it_p n2 (bnd_s h2 (it_n (by rw [if_pos ⟨c0, c3⟩]; decide) rfl))))))) (by simp [c3]; rfl)
    have n3 : (if t.2.2.1 = 1 ∧ t.2.2.2 = 315565 then (1 : Int32) else 0) = 0 := if_neg (fun q => c3 q.2)
    by_cases c4 : t.2.2.2 = 16322738
    · exact bnd_s (it_p r0 (bnd_s h0 (it_p n1 (bnd_s h1 (it_p n2 (bnd_s h2 (it_p n3 (bnd_s h3 (it_n (by rw [if_pos ⟨c0, c4⟩]; decide) rfl))))))))) (by simp [c4]; rfl)
    have n4 : (if t.2.2.1 = 1 ∧ t.2.2.2 = 16322738 then (1 : Int32) else 0) = 0 := if_neg (fun q => c4 q.2)
    exact bnd_s (it_p r0 (bnd_s h0 (it_p n1 (bnd_s h1 (it_p n2 (bnd_s h2 (it_p n3 (bnd_s h3 (it_p n4 rfl))))))))) (by simp [c0, c1, c2, c3, c4]; rfl)
  · exact bnd_s (it_n (fun q => c0 ((nI_eq (b := 1) (by omega) (by omega)).mp (k6.symm.trans q))) rfl) (by simp [c0]; rfl)
theorem in_m {K : MI} {B : Bd} {v : Nat} (hB : MBd K J m B) (gB : GB B) (h8 : J m 8 = lN v) (hv : v < 2 ^ 30) : f_X5_itemNamed m J K = some (if fnd (bNm B) v (bI B) < bI B then nI (fnd (bNm B) v (bI B)) else -1) := by
  obtain ⟨f1, f2, f3⟩ := fnd_s (g := bNm B) (v := v) (n := bI B)
  generalize fnd (bNm B) v (bI B) = j at f1 f2 f3 ⊢
  have h10 := gB.1
  have h12 := hB.1.2.2.2.2.2.2.2
  have r2 : rd 2 (K (m + 2)) (K m 12) = some (nI (bI B)) := rd_v 1 h12 (by omega) (by omega) hB.1.1
  have ix : ∀ i, (10 * K m 12) + nI i = nI (10 + i) := fun i => by rw [h12, show (10 : Int32) * 1 = nI 10 from by decide, nI_add]
  have rk : ∀ i, i < bI B → rd 20 (J (m + 7)) ((10 * K m 12) + nI i) = some (lN (bNm B i)) := fun i hi => rd_v (10 + i) (ix i) (by omega) (by omega) (hB.2.1 i hi).1
  have st : ∀ i, i < j → b_X5_itemNamed_2 m J K (nI i) = some (.inl (nI (i + 1))) := by
    intro i hi
    have hn := (gB.2.2.2.2.2.1 i (by omega)).2.2
    refine bnd_s r2 (it_p (nI_lt (by omega) (by omega)) (bnd_s (rk i (by omega)) (it_n (fun q => f3 i hi ?_) ?_)))
    · rw [h8] at q
      exact (lN_eq (by omega) (by omega)).mp q
    · rw [nI_1]
  unfold f_X5_itemNamed
  by_cases h : j < bI B
  · rw [if_pos h]
    refine bnd_s (a := .inl (nI j)) (lp_seq (fun i => nI i) j st (lp_done ?_)) rfl
    exact bnd_s r2 (it_p (nI_lt h (by omega)) (bnd_s (rk j h) (it_p (by rw [f2 h, h8]) rfl)))
  · rw [if_neg h]
    refine bnd_s (a := .inr (nI j)) (lp_seq (fun i => nI i) j st (lp_done ?_)) rfl
    exact bnd_s r2 (it_n (nI_nlt (by omega) (by omega)) rfl)
theorem on_m {K : MI} {B : Bd} {v : Nat} (hB : MBd K J m B) (gB : GB B) (h8 : J m 8 = lN v) (hv : v < 2 ^ 30) : f_X5_isOrderNamed m J K = some (if fnd (bQ B) v (bO B) < bO B then 1 else 0) := by
  obtain ⟨f1, f2, f3⟩ := fnd_s (g := bQ B) (v := v) (n := bO B)
  generalize fnd (bQ B) v (bO B) = j at f1 f2 f3 ⊢
  have h16 := gB.2.1
  have h12 := hB.1.2.2.2.2.2.2.2
  have r2 : rd 2 (K (m + 3)) (K m 12) = some (nI (bO B)) := rd_v 1 h12 (by omega) (by omega) hB.1.2.1
  have ix : ∀ i, (16 * K m 12) + nI i = nI (16 + i) := fun i => by rw [h12, show (16 : Int32) * 1 = nI 16 from by decide, nI_add]
  have rk : ∀ i, i < bO B → rd 32 (J (m + 10)) ((16 * K m 12) + nI i) = some (lN (bQ B i)) := fun i hi => rd_v (16 + i) (ix i) (by omega) (by omega) (hB.2.2.1 i hi).1
  have st : ∀ i, i < j → b_X5_isOrderNamed_2 m J K (nI i) = some (.inl (nI (i + 1))) := by
    intro i hi
    have hn := (gB.2.2.2.2.2.2.1 i (by omega)).2
    refine bnd_s r2 (it_p (nI_lt (by omega) (by omega)) (bnd_s (rk i (by omega)) (it_n (fun q => f3 i hi ?_) ?_)))
    · rw [h8] at q
      exact (lN_eq (by omega) (by omega)).mp q
    · rw [nI_1]
  unfold f_X5_isOrderNamed
  by_cases h : j < bO B
  · rw [if_pos h]
    refine bnd_s (a := .inl 1) (lp_seq (fun i => nI i) j st (lp_done ?_)) rfl
    exact bnd_s r2 (it_p (nI_lt h (by omega)) (bnd_s (rk j h) (it_p (by rw [f2 h, h8]) rfl)))
  · rw [if_neg h]
    refine bnd_s (a := .inr (nI j)) (lp_seq (fun i => nI i) j st (lp_done ?_)) rfl
    exact bnd_s r2 (it_n (nI_nlt (by omega) (by omega)) rfl)
theorem isN_1 {t : Tk} (h : isN t = true) : t.2.2.1 = 1 := by
  unfold isN at h
  simp only [Bool.and_eq_true, decide_eq_true_eq] at h
  exact h.1.1.1.1
theorem nn_m {K : MI} {t : Tk} {B : Bd} (hT : Tape K (m + 1) n bt) (hk : MK K J m n t) (hg : GK n t) (h9 : K m 9 = 0) (hB : MBd K J m B) (gB : GB B) : Ok (f_X5_newName m J K) (fun r => Rf m K J r.2.2 r.2.1 ∧ Sum.elim (fun F => r.1 = 0 ∧ MFt r.2.2 m F) (fun w => r.1 = 1 ∧ MK r.2.2 r.2.1 m n w.2 ∧ r.2.2 m 9 = 0 ∧ r.2.1 m 26 = lN w.1) (pW bt n t B)) := by
  have hisn := isn_m hk hg
  obtain ⟨g1, g2, g3, g4, g5, g6, g7⟩ := hg
  obtain ⟨k3, k4, k5, k6, k7, k8⟩ := hk
  unfold f_X5_newName pW
  refine ok_bs hisn ?_
  by_cases c1 : isN t = true
  · rw [if_pos c1, if_pos c1]
    have e8 := k8 (isN_1 c1)
    have hin := in_m hB gB e8 g4
    have hon := on_m hB gB e8 g4
    refine ok_bs (mu_y h9 (by decide)) (ok_neg i_10 (ok_bs hin ?_))
    have hI10 := gB.1
    by_cases c2 : fnd (bNm B) t.2.2.2 (bI B) < bI B ∨ fnd (bQ B) t.2.2.2 (bO B) < bO B
    · rw [if_pos c2]
      refine ok_bs (a := 0) ?_ (ok_bs (mu_n (k := 2) h9 (by omega) (by omega)) (ok_pos rfl (ok_some ?_)))
      · by_cases c3 : fnd (bNm B) t.2.2.2 (bI B) < bI B
        · rw [if_pos c3]
          exact it_n (nI_pos (by omega)) rfl
        · rw [if_neg c3]
          have c4 : fnd (bQ B) t.2.2.2 (bO B) < bO B := c2.resolve_left c3
          rw [if_pos c4] at hon
          exact it_p (by decide) (bnd_s hon (it_n (by decide) rfl))
      · have := mu_f (J := J) (k := 2) k4
        exact ⟨this.2, rfl, this.1⟩
    · rw [if_neg c2]
      have c3 : ¬ fnd (bNm B) t.2.2.2 (bI B) < bI B := fun q => c2 (Or.inl q)
      have c4 : ¬ fnd (bQ B) t.2.2.2 (bO B) < bO B := fun q => c2 (Or.inr q)
      rw [if_neg c4] at hon
      rw [if_neg c3]
      refine ok_bs (a := 1) (it_p (by decide) (bnd_s hon (it_p rfl rfl))) (ok_bs (mu_y h9 (by decide)) (ok_neg i_10 (ok_wq (fun J1 hJ1 => ?_))))
      have e1 : Rf m K J K J1 := by
        rw [hJ1]
        exact ⟨fun _ _ => rfl, fun _ _ => rfl, fun j h1 h2 => mst_ne _ _ (Or.inr h2), fun b hb => mst_row _ _ _ hb⟩
      refine ok_bind (st_r (J := J1) hT g2 k3 k5 h9) (fun r hr => ok_some ?_)
      obtain ⟨r1, r2, r3, r4, r5⟩ := hr
      refine ⟨e1.tr r3, rfl, r1, r2, ?_⟩
      show r.1 m 26 = lN t.2.2.2
      rw [r5 26 (by omega), hJ1, mst_self]
      exact e8
  · rw [if_neg c1, if_neg c1]
    refine ok_bs (mu_n (k := 1) h9 (by omega) (by omega)) (ok_pos rfl (ok_some ?_))
    have := mu_f (J := J) (k := 1) k4
    exact ⟨this.2, rfl, this.1⟩
end Nmm
