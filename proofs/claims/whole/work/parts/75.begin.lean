/-! a text taken over: the class's floor begins; shapes -/
theorem fl_q {a n : Nat} {v : Int32} {I : MI} (hn : n < 2 ^ 31) : Ok (f_J7_fill_53178 a n v I) (fun I' => (∀ k, k < n → I' a k = v) ∧ ∀ b, b ≠ a → I' b = I b) := by
  refine Ok.mk (fl_s hn) ⟨fun k hk => ?_, fun b hb => sr_o hb⟩
  rw [sr_s]
  have := ffl_i (R := I a) (off := 0) (g := fun _ => v) hk
  rw [Nat.zero_add] at this
  exact this
theorem be_c {f u ni : Nat} {I : MI} {S : Nat → Nat} (hu : u + 10 ≤ f ∨ f + 10 ≤ u) (hni : ni ≤ 10) (hS : ∀ i, i < ni → I (u + 3) i = nI (S i)) : Ok (f_X0_begin f u I) (fun I' => CF ni I' f (fl1 S) ∧ ∀ a, a < f ∨ f + 10 ≤ a → I' a = I a) := by
  unfold f_X0_begin
  refine ok_bs (cy_e (N := 10) rfl (by omega)) ?_
  have h1 : ∀ i, i < 10 → cy I (u + 3) (f + 1) 10 (f + 1) i = I (u + 3) i := fun i hi => cy_s hi
  have f1 : ∀ b, b ≠ f + 1 → cy I (u + 3) (f + 1) 10 b = I b := fun b hb => cy_o hb
  generalize cy I (u + 3) (f + 1) 10 = I1 at h1 f1 ⊢
  refine ok_bind (fl_q (by omega)) (fun I2 h2 => ok_bind (fl_q (by omega)) (fun I3 h3 => ok_bind (fl_q (by omega)) (fun I4 h4 => ok_bind (fl_q (by omega)) (fun I5 h5 => ok_bind (fl_q (by omega)) (fun I6 h6 => ok_wq (fun I7 h7 => ok_wq (fun I8 h8 => ok_wq (fun I9 h9 => ok_wq (fun I10 h10 => ok_some ?_)))))))))
  have fr : ∀ b, b ≠ f → I10 b = I6 b := fun b hb => by rw [h10, mst_row _ _ _ hb, h9, mst_row _ _ _ hb, h8, mst_row _ _ _ hb, h7, mst_row _ _ _ hb]
  refine ⟨⟨fun i hi => ?_, fun o ho => ?_, fun o ho => ?_, fun h hh => ?_, fun c hc => ?_, fun c hc => ?_, ⟨?_, ?_, fun k c hk => nomatch hk⟩, ⟨?_, fun k c hk => nomatch hk⟩, ?_, fun k c hk => nomatch hk⟩, fun a ha => ?_⟩
  · rw [fr _ (by omega), h6.2 _ (by omega), h5.2 _ (by omega), h4.2 _ (by omega), h3.2 _ (by omega), h2.2 _ (by omega), h1 i (by omega)]
    exact hS i hi
  · rw [fr _ (by omega), h6.2 _ (by omega), h5.2 _ (by omega), h4.2 _ (by omega), h3.2 _ (by omega), h2.1 o ho]
    rfl
  · rw [fr _ (by omega), h6.2 _ (by omega), h5.2 _ (by omega), h4.2 _ (by omega), h3.1 o ho]
    exact m1_z.symm
  · rw [fr _ (by omega), h6.2 _ (by omega), h5.2 _ (by omega), h4.1 h hh]
    exact m1_z.symm
  · rw [fr _ (by omega), h6.2 _ (by omega), h5.1 c hc]
    rfl
  · rw [fr _ (by omega), h6.1 c hc]
    rfl
  · rw [h10, mst_ne _ _ (Or.inr (by omega)), h9, mst_ne _ _ (Or.inr (by omega)), h8, mst_self]
    rfl
  · rw [h10, mst_ne _ _ (Or.inr (by omega)), h9, mst_self]
    rfl
  · rw [h10, mst_self]
    rfl
  · rw [h10, mst_ne _ _ (Or.inr (by omega)), h9, mst_ne _ _ (Or.inr (by omega)), h8, mst_ne _ _ (Or.inr (by omega)), h7, mst_self]
    rfl
  · rw [fr _ (by omega), h6.2 _ (by omega), h5.2 _ (by omega), h4.2 _ (by omega), h3.2 _ (by omega), h2.2 _ (by omega)]
    exact f1 a (by omega)
/-- a text as the invariant has it -/
def tB (B : Bd) (E : Nat → Nat) : Tx := ((bI B, bO B, bH B, bW B, bU B), bP B, bD B, bN B, E)
theorem gt_b {B : Bd} {E : Nat → Nat} (gB : GB B) (gN : GN B) (hE : EO (bD B) E (bO B)) : GT (tB B E) := by
  obtain ⟨b1, b2, b3, b4, b5, b6, b7, b8, b9⟩ := gB
  refine ⟨b1, b2, b3, b4, b5, fun i hi => (b6 i hi).1, fun o ho => (b7 o ho).1, gN.1, fun o ho => ?_, hE.1, hE.2.1, hE.2.2⟩
  by_cases q : o < bO B
  · have := gN.2 o q
    exact ⟨this.2, fun _ => this.1⟩
  · have : tot (tB B E) o = 0 := sm_z (fun i hi => (gN.1 (10 * o + i) (by omega)).2 (Or.inl (by omega)))
    rw [this]
    exact ⟨by omega, fun h => absurd h q⟩
theorem gf_1 {T : Tx} {S : Nat → Nat} (hS : ∀ i, i < tiI T → S i ≤ 99) : GF T (fl1 S) := by
  have hr : ∀ c, rel T (fl1 S) c = 0 := fun c => if_pos rfl
  refine ⟨⟨hS, fun o ho => ⟨Nat.zero_le _, Nat.zero_le _, ⟨fun q => (nomatch q : False).elim, fun q => absurd rfl q⟩, fun _ => rfl, fun q => (nomatch q : False).elim⟩, fun h hh => Nat.zero_le _, fun c hc => (hr c).symm, fun c hc => (nomatch hc), fun c hc => (nomatch hc), ?_, ?_, Nat.le_refl _, fun c hc => nomatch hc⟩, fun c hc => nomatch hc⟩
  · exact (sm_z (g := dn (fl1 S)) (fun i hi => rfl)).symm
  · rw [sm_z (g := rel T (fl1 S)) (fun i hi => hr _), sm_z (g := flL (fl1 S)) (fun i hi => rfl)]
    rfl
theorem ct_b {I : MI} {u : Nat} {B : Bd} (h : CBd I u B (bO B)) : ∃ E, EO (bD B) E (bO B) ∧ CT I u (tB B E) := by
  obtain ⟨⟨h1, h2, h3, h4, h5, h6, h7⟩, h8, h9, h10, h11, E, hE, h12⟩ := h
  exact ⟨E, hE, ⟨h6, h7, h1, h3, h4⟩, fun i hi => (h8 i hi).2.1, fun o ho => (h9 o ho).2, h10, fun o ho => (h11 o ho).1, fun o ho => (h11 o ho).2, h12⟩
theorem Slo.st {x b k : Nat} {z : Sh} {v : Option Nat} (h : Slo x z) (h1 : b ≠ x + 43) (h2 : b ≠ x + 44) (h3 : b = x → k ≠ 12) (h4 : b < x + 70) : Slo x (zSt z b k v) := by
  have e : ∀ s, slt x (zSt z b k v) s = slt x z s := fun s => by
    have e1 : zR (zSt z b k v) (x + 43) = zR z (x + 43) := mst_row _ _ _ (fun q => h1 q.symm)
    have e2 : zR (zSt z b k v) (x + 44) = zR z (x + 44) := mst_row _ _ _ (fun q => h2 q.symm)
    have e3 : zR (zSt z b k v) x 12 = zR z x 12 := mst_ne _ _ (by
      by_cases q : b = x
      · exact Or.inr (fun r => h3 q r.symm)
      · exact Or.inl (fun r => q r.symm))
    unfold slt
    rw [e1, e2, e3]
  refine ⟨fun s a hs ha => ?_, fun s s' a a' hs hs' hn ha ha' => ?_⟩
  · rw [e] at ha
    obtain ⟨q1, q2, q3⟩ := h.1 s a hs ha
    exact ⟨q1, q2, oL.st (L := lay0) q3 (by omega)⟩
  · rw [e] at ha ha'
    exact h.2 s s' a a' hs hs' hn ha ha'
theorem x4_4 {z : Sh} {a t u : Nat} (h : oX4 z a t u) (ht : t ≠ a) (hu : u ≠ a) : oX4 (zSt z a 4 (some t)) a t t := by
  obtain ⟨g1, g2, g3, g4, g5, g6, g7, g8, g9, g10⟩ := h
  have r : ∀ j, j ≠ 4 → zR (zSt z a 4 (some t)) a j = zR z a j := fun j hj => mst_ne _ _ (Or.inr hj)
  exact ⟨g1, ⟨g2.1, g2.2.1, g2.2.2.1, (r 0 (by omega)).trans g2.2.2.2⟩, ⟨g3.1, g3.2.1, (r 2 (by omega)).trans g3.2.2⟩, ⟨oL.st (L := lay3) g4.1 ht, (r 3 (by omega)).trans g4.2⟩, ⟨oL.st (L := lay3) g4.1 ht, mst_self _ _ _ _⟩, ⟨oL.st (L := lay0) g6.1 (by omega), (r 5 (by omega)).trans g6.2⟩, ⟨oL.st (L := lay1) g7.1 (by omega), (r 6 (by omega)).trans g7.2⟩, ⟨g8.1, g8.2.1, g8.2.2.1, (r 7 (by omega)).trans g8.2.2.2⟩, ⟨g9.1, g9.2.1, g9.2.2.1, (r 10 (by omega)).trans g9.2.2.2⟩, ⟨g10.1, g10.2.1, g10.2.2.1, (r 11 (by omega)).trans g10.2.2.2⟩⟩
theorem x4_3 {z : Sh} {a t u : Nat} (h : oX4 z a t t) (hX : oX3 z u) (ht : t ≠ a) (hu : u ≠ a) : oX4 (zSt z a 3 (some u)) a u t := by
  obtain ⟨g1, g2, g3, g4, g5, g6, g7, g8, g9, g10⟩ := h
  have r : ∀ j, j ≠ 3 → zR (zSt z a 3 (some u)) a j = zR z a j := fun j hj => mst_ne _ _ (Or.inr hj)
  exact ⟨g1, ⟨g2.1, g2.2.1, g2.2.2.1, (r 0 (by omega)).trans g2.2.2.2⟩, ⟨g3.1, g3.2.1, (r 2 (by omega)).trans g3.2.2⟩, ⟨oL.st (L := lay3) hX hu, mst_self _ _ _ _⟩, ⟨oL.st (L := lay3) g5.1 ht, (r 4 (by omega)).trans g5.2⟩, ⟨oL.st (L := lay0) g6.1 (by omega), (r 5 (by omega)).trans g6.2⟩, ⟨oL.st (L := lay1) g7.1 (by omega), (r 6 (by omega)).trans g7.2⟩, ⟨g8.1, g8.2.1, g8.2.2.1, (r 7 (by omega)).trans g8.2.2.2⟩, ⟨g9.1, g9.2.1, g9.2.2.1, (r 10 (by omega)).trans g9.2.2.2⟩, ⟨g10.1, g10.2.1, g10.2.2.1, (r 11 (by omega)).trans g10.2.2.2⟩⟩
theorem gz_r {x t u : Nat} {z : Sh} {v : Option Nat} (h : GZ x t u z) : GZ x t u (zSt z (x + 2) 0 v) := by
  obtain ⟨h1, h2, h3, h4, h5, h6⟩ := h
  exact ⟨oX4.st h1 (by omega) (by omega) (by omega) (by omega) (by omega), oL.st (L := lay5) h2 (by omega), h3, h4, h5, h6.st (by omega) (by omega) (by omega) (by omega)⟩
theorem gz_w {x t u : Nat} {z : Sh} (h : GZ x t u z) : oX4 (zSt z x 4 (some t)) x t t ∧ oX3 (zSt z x 4 (some t)) u ∧ GZ x u t (zSt (zSt z x 4 (some t)) x 3 (some u)) := by
  obtain ⟨h1, h2, h3, h4, h5, h6⟩ := h
  have a1 := x4_4 h1 (by omega) (by omega)
  have a2 : oX3 (zSt z x 4 (some t)) u := oL.st (L := lay3) h1.2.2.2.2.1.1 (by omega)
  refine ⟨a1, a2, x4_3 a1 a2 (by omega) (by omega), oL.st (L := lay5) (oL.st (L := lay5) h2 (by omega)) (by omega), h3, by omega, h5, (h6.st (by omega) (by omega) (by omega) (by omega)).st (by omega) (by omega) (by omega) (by omega)⟩
