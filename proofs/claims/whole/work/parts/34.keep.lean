/-! the reference's keeps; undo; keep -/
theorem gf_fit {T : Tx} {A : Fl} (hT : GT T) (h : GF T A) : fit A := gh_len hT h.1
theorem kp_m {m ni : Nat} {K : MI} {J : MJ} {A : Fl} {Us : List Fl} {Ks : Nat → Option Fl} (hA : MF ni (K (m + 13)) A) (hi : ni ≤ 10) (hf : fit A) (hfs : ∀ B, B ∈ Us → fit B) (hU : MU m ni K Us Ks) (hl : Us.length ≤ 12) : Ok (f_X5_keeps m J K) (fun K' => MU m ni K' ((A :: Us).take 12) Ks ∧ (∀ b, b ≠ m → b ≠ m + 14 → K' b = K b) ∧ ∀ k, k ≠ 29 → K' m k = K m k) := by
  obtain ⟨hUs, h29, hK⟩ := hU
  -- the copy of the row
  have cpy2 : ∀ (K1 : MI) (n : Nat), n < 12 → K1 m 29 = nI n → K1 (m + 13) = K (m + 13) → lp (b_X5_keeps_52 m) (0, K1) = some (nI 2117, sr K1 (m + 14) (ffl (K1 (m + 14)) (2117 * n) 2117 (K (m + 13)))) := by
    intro K1 n hn h1 h2
    refine lp_cp (m + 14) (2117 * n) 2117 (K (m + 13)) (fun k hk => ?_) (fun K' => it_n (nI_nlt (a := 2117) (b := 2117) (by omega) (by omega)) rfl)
    refine it_p (nI_lt (b := 2117) hk (by omega)) ?_
    dsimp only
    refine bnd_s (rd_v (v := K (m + 13) k) k rfl hk (by omega) (by rw [sr_o (by omega), h2])) ?_
    refine bnd_s (wr_k (2117 * n + k) ?_ (by omega) (by omega)) rfl
    rw [sr_o (by omega), h1, show (2117 : Int32) = nI 2117 from rfl, nI_mul, nI_add]
  unfold f_X5_keeps
  by_cases h12 : Us.length = 12
  · refine ok_bind (P := fun K1 => K1 m 29 = nI 11 ∧ (∀ j, j < 23287 → K1 (m + 14) j = K (m + 14) (j + 2117)) ∧ (∀ b, b ≠ m → b ≠ m + 14 → K1 b = K b) ∧ ∀ k, k ≠ 29 → K1 m k = K m k) ?_ (fun K1 hK1 => ?_)
    · refine ok_pos (by rw [h29, h12]; rfl) ?_
      refine ok_bs (lp_cp (m + 14) 0 23287 (fun j => K (m + 14) (j + 2117)) (fun k hk => ?_) (fun K' => it_n (nI_nlt (a := 23287) (b := 23287) (by omega) (by omega)) rfl)) ?_
      · refine it_p (nI_lt (b := 23287) hk (by omega)) ?_
        dsimp only
        refine bnd_s (rd_v (v := K (m + 14) (k + 2117)) (k + 2117) (by rw [show (2117 : Int32) = nI 2117 from rfl, nI_add]) (by omega) (by omega) (by rw [sr_s, ffl_o (by omega)])) ?_
        refine bnd_s (wr_k k rfl (by omega) (by omega)) ?_
        rw [Nat.zero_add]
      · refine ok_wf (ok_some ⟨?_, fun j hj => ?_, fun b h1 h2 => ?_, fun k hk => ?_⟩)
        · rw [mst_self]
          dsimp only
          rw [sr_o (by omega), h29, h12]
          decide
        · rw [mst_row _ _ _ (by omega)]
          dsimp only
          rw [sr_s]
          have := ffl_i (R := K (m + 14)) (off := 0) (n := 23287) (g := fun j => K (m + 14) (j + 2117)) hj
          rw [Nat.zero_add] at this
          exact this
        · rw [mst_row _ _ _ h1]
          exact sr_o h2
        · rw [mst_ne _ _ (Or.inr hk)]
          dsimp only
          rw [sr_o (by omega)]
    · obtain ⟨k1, k2, k3, k4⟩ := hK1
      refine ok_bs (cpy2 K1 11 (by omega) k1 (k3 _ (by omega) (by omega))) (ok_wf (ok_some ?_))
      dsimp only
      rw [sr_o (by omega), k1]
      have e14 : ∀ v, mst (sr K1 (m + 14) (ffl (K1 (m + 14)) (2117 * 11) 2117 (K (m + 13)))) m 29 v (m + 14) = ffl (K1 (m + 14)) (2117 * 11) 2117 (K (m + 13)) := fun v => by rw [mst_row _ _ _ (by omega), sr_s]
      have eo : ∀ v b, b ≠ m → b ≠ m + 14 → mst (sr K1 (m + 14) (ffl (K1 (m + 14)) (2117 * 11) 2117 (K (m + 13)))) m 29 v b = K b := fun v b h1 h2 => by rw [mst_row _ _ _ h1, sr_o h2, k3 b h1 h2]
      refine ⟨⟨fun j B hj => ?_, ?_, ?_⟩, fun b h1 h2 => eo _ b h1 h2, fun k hk => ?_⟩
      · have hj12 : j < 12 := by
          have := (List.getElem?_eq_some_iff.mp hj).1
          rw [List.length_take] at this
          omega
        rw [List.getElem?_take_of_lt hj12] at hj
        rw [e14, List.length_take, List.length_cons, h12]
        cases j with
        | zero =>
          obtain rfl := Option.some.inj hj
          refine hA.cg (fun k hk => ?_) hi (by have := hf.1; omega) hf.2.1 hf.2.2
          exact ffl_i hk
        | succ j =>
          have hB := hUs j B hj
          have hfb := hfs B (List.mem_of_getElem? hj)
          refine hB.cg (fun k hk => ?_) hi (by have := hfb.1; omega) hfb.2.1 hfb.2.2
          rw [ffl_o (by omega), k2 _ (by omega), h12]
          congr 1
          omega
      · rw [mst_self, List.length_take, List.length_cons, h12]
        decide
      · rw [eo _ _ (by omega) (by omega), eo _ _ (by omega) (by omega)]
        exact hK
      · rw [mst_ne _ _ (Or.inr hk), sr_o (by omega)]
        exact k4 k hk
  · refine ok_bs (a := K) (it_n (by rw [h29]; exact fun q => h12 ((nI_eq (b := 12) (by omega) (by omega)).mp q)) rfl) ?_
    have hn : Us.length < 12 := by omega
    refine ok_bs (cpy2 K Us.length hn h29 rfl) (ok_wf (ok_some ?_))
    dsimp only
    rw [sr_o (by omega), h29]
    have e14 : ∀ v, mst (sr K (m + 14) (ffl (K (m + 14)) (2117 * Us.length) 2117 (K (m + 13)))) m 29 v (m + 14) = ffl (K (m + 14)) (2117 * Us.length) 2117 (K (m + 13)) := fun v => by rw [mst_row _ _ _ (by omega), sr_s]
    have eo : ∀ v b, b ≠ m → b ≠ m + 14 → mst (sr K (m + 14) (ffl (K (m + 14)) (2117 * Us.length) 2117 (K (m + 13)))) m 29 v b = K b := fun v b h1 h2 => by rw [mst_row _ _ _ h1, sr_o h2]
    refine ⟨⟨fun j B hj => ?_, ?_, ?_⟩, fun b h1 h2 => eo _ b h1 h2, fun k hk => ?_⟩
    · have hj12 : j < 12 := by
        have := (List.getElem?_eq_some_iff.mp hj).1
        rw [List.length_take] at this
        omega
      rw [List.getElem?_take_of_lt hj12] at hj
      rw [e14, List.length_take, List.length_cons, show min 12 (Us.length + 1) = Us.length + 1 by omega]
      cases j with
      | zero =>
        obtain rfl := Option.some.inj hj
        refine hA.cg (fun k hk => ?_) hi (by have := hf.1; omega) hf.2.1 hf.2.2
        exact ffl_i hk
      | succ j =>
        have hB := hUs j B hj
        have hfb := hfs B (List.mem_of_getElem? hj)
        have hjl : j < Us.length := by have := (List.getElem?_eq_some_iff.mp hj).1; rw [List.length_cons] at this; omega
        refine hB.cg (fun k hk => ?_) hi (by have := hfb.1; omega) hfb.2.1 hfb.2.2
        rw [show Us.length + 1 - 1 - (j + 1) = Us.length - 1 - j by omega, ffl_o (by
          have : 2117 * (Us.length - 1 - j) + 2117 ≤ 2117 * Us.length := by omega
          omega)]
    · rw [mst_self, List.length_take, List.length_cons, show min 12 (Us.length + 1) = Us.length + 1 by omega, nI_1]
    · rw [eo _ _ (by omega) (by omega), eo _ _ (by omega) (by omega)]
      exact hK
    · rw [mst_ne _ _ (Or.inr hk), sr_o (by omega)]
theorem un_c {x t u ni : Nat} {z : Sh} {I : MI} {B : Fl} {Us : List Fl} {Ks : Nat → Option Fl} (hz : GZ x t u z) (hi : ni ≤ 10) (hf : fit B) (hU : CU x ni z I (B :: Us) Ks) : Ok (f_X4_undo x t u z I) (fun r => r.1 = nI Us.length ∧ CF ni r.2 (x + 24) B ∧ CU x ni z r.2 Us Ks ∧ (∀ b, b < x + 24 ∨ x + 34 ≤ b → b ≠ x → r.2 b = I b) ∧ ∀ k, k ≠ 8 → k ≠ 9 → r.2 x k = I x k) := by
  obtain ⟨⟨p, hp, h8, hUs⟩, h9, hl, hK⟩ := hU
  rw [List.length_cons] at h9 hl
  unfold f_X4_undo
  refine ok_neg (by rw [h9]; exact nI_ne0 (by omega) (by omega)) ?_
  rw [h8, pv_12 p hp]
  obtain ⟨a, ha, haB⟩ := hUs 0 B rfl
  rw [Nat.sub_zero] at ha
  have ha2 := hz.2.2.2.2.2.1 _ a (by omega) ha
  have hsl : zR z (x + 43) ((p + 11) % 12) = some a := by
    unfold slt at ha
    rw [if_pos (by omega)] at ha
    exact ha
  refine ok_wf (ok_bs (a := some a) (rd_v ((p + 11) % 12) (mst_self _ _ _ _) (by omega) (by omega) hsl) ?_)
  refine ok_gd ha2.2.2 ?_
  have haB' : CF ni (mst I x 8 (nI ((p + 11) % 12))) a B := haB.fr (fun r hr => mst_row _ _ _ (by omega))
  refine ok_bind (cp_s haB' (Or.inl (by omega)) hi hf.1 hf.2.1 hf.2.2) (fun I1 hI1 => ok_wf (ok_some ?_))
  dsimp only
  have ex : ∀ k, I1 x k = mst I x 8 (nI ((p + 11) % 12)) x k := fun k => by rw [hI1.2 x (by omega)]
  have eo : ∀ v b, b ≠ x → b < x + 24 ∨ x + 34 ≤ b → mst I1 x 9 v b = I b := fun v b h1 h2 => by rw [mst_row _ _ _ h1, hI1.2 b (by omega), mst_row _ _ _ h1]
  have e9 : I1 x 9 - 1 = nI Us.length := by rw [ex, mst_ne _ _ (Or.inr (by omega)), h9, nI_pred]
  rw [e9]
  refine ⟨mst_self _ _ _ _, hI1.1.fr (fun r hr => mst_row _ _ _ (by omega)), ⟨⟨(p + 11) % 12, by omega, ?_, fun j C hj => ?_⟩, mst_self _ _ _ _, by omega, fun k hk => ⟨fun q => ?_, fun C hC => ?_⟩⟩, fun b h1 h2 => eo _ b h2 h1, fun k h1 h2 => ?_⟩
  · rw [mst_ne _ _ (Or.inr (by omega)), ex, mst_self]
  · obtain ⟨b, hb, hB⟩ := hUs (j + 1) C hj
    have hj2 : j < Us.length := (List.getElem?_eq_some_iff.mp hj).1
    have hb2 := hz.2.2.2.2.2.1 _ b (by omega) hb
    refine ⟨b, ?_, hB.fr (fun r hr => eo _ _ (by omega) (by omega))⟩
    rw [show ((p + 11) % 12 + 11 - j) % 12 = (p + 11 - (j + 1)) % 12 by omega]
    exact hb
  · rw [eo _ _ (by omega) (by omega)]
    exact (hK k hk).1 q
  · obtain ⟨hb1, b, hb, hB2⟩ := (hK k hk).2 C hC
    have hb2 := hz.2.2.2.2.2.1 _ b (by omega) hb
    exact ⟨by rw [eo _ _ (by omega) (by omega)]; exact hb1, b, hb, hB2.fr (fun r hr => eo _ _ (by omega) (by omega))⟩
  · rw [mst_ne _ _ (Or.inr h2), ex, mst_ne _ _ (Or.inr h1)]
theorem un_m {m ni : Nat} {K : MI} {J : MJ} {B : Fl} {Us : List Fl} {Ks : Nat → Option Fl} (hi : ni ≤ 10) (hf : fit B) (hl : Us.length < 12) (hU : MU m ni K (B :: Us) Ks) : Ok (f_X5_undo m J K) (fun r => r.1 = nI Us.length ∧ MF ni (r.2 (m + 13)) B ∧ MU m ni r.2 Us Ks ∧ (∀ b, b ≠ m → b ≠ m + 13 → r.2 b = K b) ∧ ∀ k, k ≠ 0 → k ≠ 29 → r.2 m k = K m k) := by
  obtain ⟨hUs, h29, hK⟩ := hU
  rw [List.length_cons] at h29 hUs
  unfold f_X5_undo
  refine ok_wf ?_
  have e29 : mst K m 0 0 m 29 = nI (Us.length + 1) := by rw [mst_ne _ _ (Or.inr (by omega))]; exact h29
  refine ok_neg (by rw [e29]; exact nI_ne0 (by omega) (by omega)) ?_
  rw [e29, nI_pred]
  refine ok_wf ?_
  obtain ⟨K3, hK3⟩ : ∃ K3, K3 = mst (mst K m 0 0) m 29 (nI Us.length) := ⟨_, rfl⟩
  rw [← hK3]
  have k29 : K3 m 29 = nI Us.length := by rw [hK3, mst_self]
  have ko : ∀ b, b ≠ m → K3 b = K b := fun b hb => by rw [hK3, mst_row _ _ _ hb, mst_row _ _ _ hb]
  refine ok_bs (lp_cp (m + 13) 0 2117 (fun j => K (m + 14) (2117 * Us.length + j)) (fun k hk => ?_) (fun K' => it_n (nI_nlt (a := 2117) (b := 2117) (by omega) (by omega)) rfl)) (ok_some ?_)
  · refine it_p (nI_lt (b := 2117) hk (by omega)) ?_
    dsimp only
    refine bnd_s (rd_v (v := K (m + 14) (2117 * Us.length + k)) (2117 * Us.length + k) (by rw [sr_o (by omega), k29, show (2117 : Int32) = nI 2117 from rfl, nI_mul, nI_add]) (by omega) (by omega) (by rw [sr_o (by omega), ko _ (by omega)])) ?_
    refine bnd_s (wr_k k rfl (by omega) (by omega)) ?_
    rw [Nat.zero_add]
  · dsimp only
    have eo : ∀ R b, b ≠ m → b ≠ m + 13 → sr K3 (m + 13) R b = K b := fun R b h1 h2 => by rw [sr_o h2, ko b h1]
    refine ⟨by rw [sr_o (by omega)]; exact k29, ?_, ⟨fun j C hj => ?_, by rw [sr_o (by omega)]; exact k29, ?_⟩, fun b h1 h2 => eo _ b h1 h2, fun k h1 h2 => ?_⟩
    · rw [sr_s]
      refine (hUs 0 B rfl).cg (fun k hk => ?_) hi (by have := hf.1; omega) hf.2.1 hf.2.2
      have := ffl_i (R := K3 (m + 13)) (off := 0) (n := 2117) (g := fun j => K (m + 14) (2117 * Us.length + j)) hk
      rw [Nat.zero_add] at this
      exact this
    · have := hUs (j + 1) C hj
      rw [eo _ _ (by omega) (by omega)]
      rw [show Us.length + 1 - 1 - (j + 1) = Us.length - 1 - j by omega] at this
      exact this
    · rw [eo _ _ (by omega) (by omega), eo _ _ (by omega) (by omega)]
      exact hK
    · rw [sr_o (by omega), hK3, mst_ne _ _ (Or.inr h2), mst_ne _ _ (Or.inr h1)]
/-- the text, the tape of the reference, where its rows stand -/
theorem MT.fr {m : Nat} {K K' : MI} {T : Tx} (h : MT K m T) (e : ∀ r, 2 ≤ r ∧ r ≤ 6 ∨ r = 8 ∨ 11 ≤ r ∧ r ≤ 12 → K' (m + r) = K (m + r)) : MT K' m T := by
  unfold MT at *
  rw [e 2 (by omega), e 3 (by omega), e 4 (by omega), e 5 (by omega), e 6 (by omega), e 8 (by omega), e 11 (by omega), e 12 (by omega)]
  exact h
theorem CP.fr {a f n : Nat} {I I' : MI} {tp : Nat → Int32} (h : CP a f I n tp) (e0 : I' a f = I a f) (e1 : I' (a + 1) = I (a + 1)) : CP a f I' n tp := ⟨e0.trans h.1, by rw [e1]; exact h.2⟩
theorem case_24 {x L : Nat} {xs : Nat → Int32} : CaseOk (Inv x) L (fun t u i z J I => f_Lc_24 x t u (x + 46) L xs i z J I) := by
  rintro t u z J I k ⟨⟨T, A, n, tp, Us, Ks⟩, hg, hz, hc, hm⟩ hk
  cases Us with
  | nil =>
    refine ⟨z, J, mst I (x + 46) 0 0, t, u, ?_, Inv.ask hg hz hc hm⟩
    show f_Lc_24 x t u (x + 46) L xs (nI (6 * k)) z J I = _
    unfold f_Lc_24
    refine bnd_s (it_p hc.2.2.2.2.1 rfl) (bnd_s (bnd_s rfl (it_p (hm.thr (v := 0)).2.2.2.2.1 rfl)) (if_pos rfl))
  | cons B Us =>
    obtain ⟨g1, g2, g3, g6, g7⟩ := hg
    obtain ⟨c1, c2, c3, c4⟩ := hc
    obtain ⟨m1, m2, m3, m4⟩ := hm
    dsimp only at g1 g2 g3 g6 g7 c1 c2 c3 c4 m1 m2 m3 m4
    have hB := g6 B (List.mem_cons_self ..)
    have hf := gf_fit g1 hB
    have ht := hz.2.2.2.1
    have h5 := hz.2.2.2.2.1
    have hll := c4.2.2.1
    rw [List.length_cons] at hll
    obtain ⟨⟨v, I1⟩, e1, a1, a2, a3, a4, a5⟩ := un_c hz g1.1 hf c4
    dsimp only at a1 a2 a3 a4 a5
    have m4' : MU (x + 46) (tiI T) I1 (B :: Us) Ks := by
      unfold MU at m4 ⊢
      rw [a4 _ (by omega) (by omega), a4 _ (by omega) (by omega), a4 _ (by omega) (by omega), a4 _ (by omega) (by omega)]
      exact m4
    obtain ⟨⟨w, I2⟩, e2, b1, b2, b3, b4, b5⟩ := un_m (J := J) g1.1 hf (by omega) m4'
    dsimp only at b1 b2 b3 b4 b5
    have hMd : ∀ b, b < x + 46 ∨ x + 69 ≤ b → I2 b = I1 b := fun b hb => b4 b (by omega) (by omega)
    refine ⟨z, J, I2, t, u, ?_, ⟨T, B, n, tp, Us, Ks⟩, ⟨g1, hB, g3, fun C hC => g6 C (List.mem_cons_of_mem _ hC), g7⟩, hz, ⟨?_, ?_, ?_, ?_⟩, ?_, b2, ?_, b3⟩
    · show f_Lc_24 x t u (x + 46) L xs (nI (6 * k)) z J I = _
      unfold f_Lc_24
      exact bnd_s e1 (bnd_s e2 (if_pos (a1.trans b1.symm)))
    · exact c1.fr (fun r hr => (hMd _ (by omega)).trans (a4 _ (by omega) (by omega)))
    · exact a2.fr (fun r hr => hMd _ (by omega))
    · exact c3.fr (by rw [hMd _ (by omega)]; exact a5 1 (by omega) (by omega)) ((hMd _ (by omega)).trans (a4 _ (by omega) (by omega)))
    · exact a3.fr hz.2.2.2.2.2 (hMd _ (by omega)) (hMd _ (by omega)) (fun a ha => hMd _ (by omega))
    · exact m1.fr (fun r hr => (b4 _ (by omega) (by omega)).trans (a4 _ (by omega) (by omega)))
    · exact m3.fr (by rw [b5 2 (by omega) (by omega), a4 _ (by omega) (by omega)]) ((b4 _ (by omega) (by omega)).trans (a4 _ (by omega) (by omega)))
