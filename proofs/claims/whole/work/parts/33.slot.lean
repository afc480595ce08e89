/-! the floors made when first needed; remember and keeps -/
theorem oL.st {z : Sh} {a c b k : Nat} {v : Option Nat} {L : List (Nat × Nat × Nat × Nat)} (h : oL z a c L) (hb : a ≠ b) : oL (zSt z b k v) a c L := by
  refine ⟨h.1, fun q hq => ?_⟩
  obtain ⟨h1, h2, h3, h4⟩ := h.2 q hq
  refine ⟨h1, h2, h3, ?_⟩
  show mst (zR z) b k v a q.1 = _
  rw [mst_ne _ _ (Or.inl hb)]
  exact h4
theorem oX4.st {z : Sh} {a t u b k : Nat} {v : Option Nat} (h : oX4 z a t u) (ht : t ≠ b) (hu : u ≠ b) (h0 : a + 24 ≠ b) (h1 : a + 34 ≠ b) (hk : b = a → k = 12) : oX4 (zSt z b k v) a t u := by
  obtain ⟨g1, g2, g3, g4, g5, g6, g7, g8, g9, g10⟩ := h
  have r : ∀ j, j ≠ 12 → zR (zSt z b k v) a j = zR z a j := fun j hj => mst_ne _ _ (by
    by_cases e : a = b
    · exact Or.inr (fun q => hj (q.trans (hk e.symm)))
    · exact Or.inl e)
  exact ⟨g1, ⟨g2.1, g2.2.1, g2.2.2.1, (r 0 (by omega)).trans g2.2.2.2⟩, ⟨g3.1, g3.2.1, (r 2 (by omega)).trans g3.2.2⟩, ⟨oL.st (L := lay3) g4.1 ht, (r 3 (by omega)).trans g4.2⟩, ⟨oL.st (L := lay3) g5.1 hu, (r 4 (by omega)).trans g5.2⟩, ⟨oL.st (L := lay0) g6.1 h0, (r 5 (by omega)).trans g6.2⟩, ⟨oL.st (L := lay1) g7.1 h1, (r 6 (by omega)).trans g7.2⟩, ⟨g8.1, g8.2.1, g8.2.2.1, (r 7 (by omega)).trans g8.2.2.2⟩, ⟨g9.1, g9.2.1, g9.2.2.1, (r 10 (by omega)).trans g9.2.2.2⟩, ⟨g10.1, g10.2.1, g10.2.2.1, (r 11 (by omega)).trans g10.2.2.2⟩⟩
def sst (x : Nat) (z : Sh) (s a : Nat) : Sh := zSt z (if s < 12 then x + 43 else if s < 14 then x + 44 else x) (if s < 12 then s else if s < 14 then s - 12 else 12) (some a)
theorem sst_s {x s a : Nat} {z : Sh} : slt x (sst x z s a) s = some a := by
  unfold slt sst
  by_cases h1 : s < 12
  · simp only [h1, if_true]; exact mst_self _ _ _ _
  · by_cases h2 : s < 14
    · simp only [h1, h2, if_true, if_false]; exact mst_self _ _ _ _
    · simp only [h1, h2, if_false]; exact mst_self _ _ _ _
theorem sst_o {x s s' a : Nat} {z : Sh} (h : s < 15) (h' : s' < 15) (hn : s' ≠ s) : slt x (sst x z s a) s' = slt x z s' := by
  unfold slt sst
  by_cases h1 : s < 12 <;> by_cases h2 : s' < 12 <;> by_cases h3 : s < 14 <;> by_cases h4 : s' < 14 <;> simp only [h1, h2, h3, h4, if_true, if_false] <;> exact mst_ne _ _ (by omega)
theorem slt_e {x s b : Nat} {z z' : Sh} (e : Ext b z z') (hb : x + 45 ≤ b) : slt x z' s = slt x z s := by
  unfold slt
  rw [(e (x + 43) (by omega)).2.2.2, (e (x + 44) (by omega)).2.2.2, (e x (by omega)).2.2.2]
theorem GZ.slot {x t u s : Nat} {z z1 : Sh} (h : GZ x t u z) (e : Ext (zs z) z z1) (hs : zs z1 = zs z + 10) (ho : oX0 z1 (zs z)) (h15 : s < 15) : GZ x t u (sst x z1 s (zs z)) := by
  obtain ⟨h1, h2, h3, h4, h5, h6, h7⟩ := h
  have hb : ∀ (b c : Nat) (L : List (Nat × Nat × Nat × Nat)), oL z1 b c L → b ≠ x → b ≠ x + 43 → b ≠ x + 44 → oL (sst x z1 s (zs z)) b c L := by
    intro b c L hL q1 q2 q3
    refine oL.st hL ?_
    split
    · exact q2
    · split
      · exact q3
      · exact q1
  have hnw : ∀ w, w ≠ x → w ≠ x + 43 → w ≠ x + 44 → w ≠ (if s < 12 then x + 43 else if s < 14 then x + 44 else x) := by
    intro w q1 q2 q3
    split
    · exact q2
    · split
      · exact q3
      · exact q1
  have h68 := e (x + 69) (by omega)
  refine ⟨oX4.st (h1.ext e (by omega) (by omega) (by omega)) (hnw t (by omega) (by omega) (by omega)) (hnw u (by omega) (by omega) (by omega)) (hnw _ (by omega) (by omega) (by omega)) (hnw _ (by omega) (by omega) (by omega)) ?_, hb _ _ lay5 (h2.ext e (by omega)) (by omega) (by omega) (by omega), ⟨h68.1 h3.1, h68.2.1.trans h3.2.1, h68.2.2.1.trans h3.2.2⟩, h4, by show x + 70 ≤ zs z1; omega, fun s' a hs' ha => ?_, fun s' s'' a a' hs' hs'' hn ha ha' => ?_⟩
  · intro q
    by_cases q1 : s < 12
    · simp only [q1, if_true] at q; omega
    · by_cases q2 : s < 14
      · simp only [q1, q2, if_true, if_false] at q; omega
      · simp only [q1, q2, if_false]
  · by_cases q : s' = s
    · subst q
      rw [sst_s] at ha
      obtain rfl := Option.some.inj ha
      exact ⟨h5, by show zs z + 10 ≤ zs z1; omega, hb _ _ lay0 ho (by omega) (by omega) (by omega)⟩
    · rw [sst_o h15 hs' q, slt_e e (by omega)] at ha
      obtain ⟨a1, a2, a3⟩ := h6 s' a hs' ha
      exact ⟨a1, by show a + 10 ≤ zs z1; omega, hb _ _ lay0 (a3.ext e (by omega)) (by omega) (by omega) (by omega)⟩
  · by_cases q : s' = s
    · subst q
      rw [sst_s] at ha
      rw [sst_o h15 hs'' (fun q => hn q.symm), slt_e e (by omega)] at ha'
      obtain rfl := Option.some.inj ha
      exact Or.inr (h6 s'' a' hs'' ha').2.1
    · rw [sst_o h15 hs' q, slt_e e (by omega)] at ha
      by_cases q' : s'' = s
      · subst q'
        rw [sst_s] at ha'
        obtain rfl := Option.some.inj ha'
        exact Or.inl (h6 s' a hs' ha).2.1
      · rw [sst_o h15 hs'' q', slt_e e (by omega)] at ha'
        exact h7 s' s'' a a' hs' hs'' hn ha ha'
def fit (A : Fl) : Prop := flT A + (flB A).length ≤ 864 ∧ (flD A).length ≤ 864 ∧ (flC A).length ≤ 16
theorem nx_12 : ∀ p, p < 12 → (nI p + 1) - (nI p + 1) / 12 * 12 = nI ((p + 1) % 12) := by decide
theorem pv_12 : ∀ p, p < 12 → ((nI p + 12) - 1) - ((nI p + 12) - 1) / 12 * 12 = nI ((p + 11) % 12) := by decide
theorem mn_12 : ∀ n, n < 13 → imin (nI n + 1) 12 = nI (min 12 (n + 1)) := by decide
/-- what is left of remember once the floor's copy is laid -/
theorem rem_e {x t u ni p a : Nat} {z z' : Sh} {I I1 : MI} {A : Fl} {Us : List Fl} {Ks : Nat → Option Fl} (hz : GZ x t u z) (hU : ∀ j B, Us[j]? = some B → ∃ a, slt x z ((p + 11 - j) % 12) = some a ∧ CF ni I a B) (h9 : I x 9 = nI Us.length) (hl : Us.length ≤ 12) (hK : ∀ k, k < 2 → (Ks k = none → I (x + 45) k = 0) ∧ ∀ B, Ks k = some B → I (x + 45) k = 1 ∧ ∃ a, slt x z (12 + k) = some a ∧ CF ni I a B) (hp : p < 12) (h8 : I x 8 = nI p)
    (hz' : GZ x t u z') (hs : zs z ≤ zs z') (ha : slt x z' p = some a) (ho : ∀ s, s < 15 → s ≠ p → slt x z' s = slt x z s) (hA : CF ni I1 a A) (hd : ∀ b, b < zs z → b < a ∨ a + 10 ≤ b → I1 b = I b) (hdj : ∀ s b, s < 15 → s ≠ p → slt x z s = some b → b + 10 ≤ a ∨ a + 10 ≤ b) (hax : x + 70 ≤ a) :
    Ok ((wf I1 x 8 (((I1 x 8) + 1) - ((I1 x 8) + 1) / 12 * 12)).bind fun I2 => (wf I2 x 9 (imin ((I2 x 9) + 1) 12)).bind fun I3 => some ((z', I3))) (fun r => GZ x t u r.1 ∧ zs z ≤ zs r.1 ∧ CU x ni r.1 r.2 ((A :: Us).take 12) Ks ∧ (∀ b, b < x + 70 → b ≠ x → r.2 b = I b) ∧ ∀ k, k ≠ 8 → k ≠ 9 → r.2 x k = I x k) := by
  have h5 := hz.2.2.2.2.1
  have ex : I1 x = I x := hd x (by omega) (by omega)
  rw [ex, h8, nx_12 p hp]
  refine ok_wf (ok_wf (ok_some ?_))
  dsimp only
  rw [mst_ne _ _ (Or.inr (by omega)), ex, h9, mn_12 _ (by omega)]
  have fr : ∀ b v w, b ≠ x → mst (mst I1 x 8 v) x 9 w b = I1 b := fun b v w hb => by rw [mst_row _ _ _ hb, mst_row _ _ _ hb]
  refine ⟨hz', hs, ⟨⟨(p + 1) % 12, by omega, ?_, fun j B hj => ?_⟩, ?_, ?_, fun k hk => ⟨fun q => ?_, fun B hB => ?_⟩⟩, fun b hb hx => ?_, fun k h1 h2 => ?_⟩
  · rw [mst_ne _ _ (Or.inr (by omega)), mst_self]
  · have hj12 : j < 12 := by
      have := (List.getElem?_eq_some_iff.mp hj).1
      rw [List.length_take] at this
      omega
    rw [List.getElem?_take_of_lt hj12] at hj
    cases j with
    | zero =>
      obtain rfl := Option.some.inj hj
      refine ⟨a, ?_, hA.fr (fun r hr => fr _ _ _ (by omega))⟩
      rw [show ((p + 1) % 12 + 11 - 0) % 12 = p by omega]
      exact ha
    | succ j =>
      obtain ⟨b, hb, hB⟩ := hU j B hj
      have e : ((p + 1) % 12 + 11 - (j + 1)) % 12 = (p + 11 - j) % 12 := by omega
      have hne : (p + 11 - j) % 12 ≠ p := by omega
      have hb2 := hz.2.2.2.2.2.1 _ b (by omega) hb
      have hdis := hdj _ b (by omega) hne hb
      refine ⟨b, ?_, hB.fr (fun r hr => ?_)⟩
      · rw [e, ho _ (by omega) hne]
        exact hb
      · rw [fr _ _ _ (by omega), hd _ (by omega) (by omega)]
  · rw [mst_self, List.length_take, List.length_cons]
  · rw [List.length_take]
    omega
  · rw [fr _ _ _ (by omega), hd _ (by omega) (by omega)]
    exact (hK k hk).1 q
  · obtain ⟨hb1, b, hb, hB2⟩ := (hK k hk).2 B hB
    have hb2 := hz.2.2.2.2.2.1 _ b (by omega) hb
    have hdis := hdj _ b (by omega) (by omega) hb
    refine ⟨by rw [fr _ _ _ (by omega), hd _ (by omega) (by omega)]; exact hb1, b, ?_, hB2.fr (fun r hr => ?_)⟩
    · rw [ho _ (by omega) (by omega)]
      exact hb
    · rw [fr _ _ _ (by omega), hd _ (by omega) (by omega)]
  · rw [fr _ _ _ hx, hd _ (by omega) (by omega)]
  · rw [mst_ne _ _ (Or.inr h2), mst_ne _ _ (Or.inr h1), ex]
theorem wz_k {n a i v : Nat} {z : Sh} {w : Int32} (e : w = nI i) (hi : i < n) (hn : n < 2 ^ 31) : wz n z a w v = some (zSt z a i (some v)) := by
  unfold wz
  rw [e, if_neg (nI_in hi hn), nI_clamp (by omega)]
/-- a floor made new, and the slot that is to have it -/
theorem mk_fl {x t u s : Nat} {z : Sh} {I : MI} (hz : GZ x t u z) (h15 : s < 15) : oX4 (zNw z 0) x t u ∧ Ok (f_X0_init (zs z) (zNw z 0) (clr 0 I (zs z))) (fun r => zs r.1 = zs z + 10 ∧ oX4 r.1 x t u ∧ raw r.1 (zs z) 0 ∧ raw r.1 x 4 ∧ (∀ b, b < zs z → r.2 b = I b) ∧ oX0 r.1 (zs z) ∧ GZ x t u (sst x r.1 s (zs z)) ∧ (∀ s', s' < 15 → s' ≠ s → slt x (sst x r.1 s (zs z)) s' = slt x z s')) := by
  have h4 := hz.2.2.2.1
  have h5 := hz.2.2.2.2.1
  refine ⟨hz.1.ext (Ext.nw 0 (Nat.le_refl _)) (by omega) (by omega) (by omega), ?_⟩
  refine (in_0 (Lay.new 0)).im (fun r hr => ?_)
  obtain ⟨⟨r1, r2, r3⟩, r4, _⟩ := hr
  have e : Ext (zs z) z r.1 := (Ext.nw 0 (Nat.le_refl _)).tr r3
  refine ⟨r1, hz.1.ext e (by omega) (by omega) (by omega), ⟨r2.1.1, r2.1.2, by omega⟩, ⟨(e x (by omega)).1 hz.1.1.1, (e x (by omega)).2.1.trans hz.1.1.2, by omega⟩, fun b hb => ?_, r2, hz.slot e r1 r2 h15, fun s' h h' => ?_⟩
  · rw [r4 b hb, clr_ne _ _ (by omega)]
  · rw [sst_o h15 h h', slt_e e (by omega)]
theorem rem_c {x t u ni : Nat} {z : Sh} {I : MI} {A : Fl} {Us : List Fl} {Ks : Nat → Option Fl} (hz : GZ x t u z) (hA : CF ni I (x + 24) A) (hi : ni ≤ 10) (hf : fit A) (hU : CU x ni z I Us Ks) : Ok (f_X4_remember x t u z I) (fun r => GZ x t u r.1 ∧ zs z ≤ zs r.1 ∧ CU x ni r.1 r.2 ((A :: Us).take 12) Ks ∧ (∀ b, b < x + 70 → b ≠ x → r.2 b = I b) ∧ ∀ k, k ≠ 8 → k ≠ 9 → r.2 x k = I x k) := by
  obtain ⟨⟨p, hp, h8, hUs⟩, h9, hl, hK⟩ := hU
  have h5 := hz.2.2.2.2.1
  unfold f_X4_remember
  have hslt : slt x z p = zR z (x + 43) p := by unfold slt; rw [if_pos hp]
  refine ok_rd p h8 hp (by omega) ?_
  cases hq : zR z (x + 43) p with
  | none =>
    obtain ⟨m1, m2⟩ := mk_fl (s := p) (I := I) hz (by omega)
    refine ok_nm (ok_nm (ok_gd m1 (ok_bind m2 (fun r hr => ?_))))
    obtain ⟨r1, r2, r3, r4, r5, r6, r7, r8⟩ := hr
    have hss : sst x r.1 p (zs z) = zSt r.1 (x + 43) p (some (zs z)) := by unfold sst; rw [if_pos hp, if_pos hp]
    refine ok_gd (by show zs z + 1 ≤ _; omega) (ok_gd r2 (ok_gd r3 (ok_bs (wz_k (by rw [r5 x (by omega)]; exact h8) hp (by omega)) ?_)))
    rw [← hss]
    have ho : oX0 (sst x r.1 p (zs z)) (zs z) := (r7.2.2.2.2.2.1 p _ (by omega) sst_s).2.2
    refine ok_gd r7.1 (ok_gd ⟨r3.1, r3.2.1, r3.2.2⟩ (ok_gd ho ?_))
    have hA' : CF ni r.2 (x + 24) A := hA.fr (fun k hk => r5 _ (by omega))
    refine ok_bind (cp_s hA' (Or.inr (by omega)) hi hf.1 hf.2.1 hf.2.2) (fun I1 hI1 => ?_)
    exact rem_e hz hUs h9 hl hK hp h8 r7 (by show zs z ≤ zs r.1; omega) sst_s r8 hI1.1 (fun b hb _ => (hI1.2 b (by omega)).trans (r5 b hb)) (fun s b hs _ hb => Or.inl (hz.2.2.2.2.2.1 s b hs hb).2.1) h5
  | some a =>
    have ha := hz.2.2.2.2.2.1 p a (by omega) (hslt.trans hq)
    refine ok_gd ha.2.2 ?_
    refine ok_bind (cp_s hA (Or.inr (by omega)) hi hf.1 hf.2.1 hf.2.2) (fun I1 hI1 => ?_)
    exact rem_e hz hUs h9 hl hK hp h8 hz (Nat.le_refl _) (hslt.trans hq) (fun _ _ _ => rfl) hI1.1 (fun b _ hb => hI1.2 b hb) (fun s b hs hn hb => hz.2.2.2.2.2.2 s p b a hs (by omega) hn hb (hslt.trans hq)) ha.1
